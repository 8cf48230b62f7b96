import java.util.Arrays;
import java.util.Comparator;
import java.util.HashMap;
import java.util.Map;
import java.util.function.IntUnaryOperator;
import java.util.function.Supplier;

/** The boundary cases that promises 6 to 11 name: the calls that ask. */
final class QuestionBoundaries {
    private static final int EVERY = Tried.EVERY;
    private static final int ALL = Tried.ALL;
    private static final int LEAST = Tried.LEAST;
    private static final int MOST = Tried.MOST;

    private QuestionBoundaries() {
    }

    static void addTo(Boundaries list) {
        list.section("Promise 6");
        decide(list);
        noPacket(list, "decide");
        list.section("Promise 7");
        action(list);
        noPacket(list, "action");
        list.section("Promise 8");
        decided(list);
        noPlace(list, "decided");
        list.section("Promise 9");
        having(list);
        list.section("Promise 10");
        use(list);
        noRule(list);
        list.section("Promise 11");
        witness(list);
        noPlace(list, "witness");
    }

    private static int range(int first, int last) {
        return Tried.range(first, last);
    }

    private static int kind(int action, int sorts) {
        return Tried.kind(action, sorts);
    }

    private static Tried oneRule(Probe probe, int sources, int destinations, int kind) {
        Tried tried = probe.fresh();
        tried.due(1).insert(0, sources, destinations, kind);
        return tried;
    }

    /** A table whose three rules match every packet but the first, or but the last. */
    private static Tried allBut(Probe probe, boolean butFirst) {
        Tried tried = oneRule(probe, butFirst ? range(1, 31) : range(0, 30), EVERY, kind(1, ALL));
        tried.due(2).insert(1, EVERY, butFirst ? range(1, 31) : range(0, 30), kind(1, ALL));
        tried.due(3).insert(2, EVERY, EVERY, kind(1, butFirst ? 14 : 7));
        return tried;
    }

    // Promises 6 and 7

    private static void decide(Boundaries list) {
        list.says("The place of the packet's deciding rule; -1 if there is none");
        list.test("without a rule", probe -> {
            Tried tried = probe.fresh();
            tried.due(-1).decide(0, 0, 0);
            tried.due(-1).decide(31, 31, 3);
        }, Faults.answers("decide", (a, right, table) -> table.size() == 0 ? 0 : right),
            Faults.answers("decide", (a, right, table) -> right == -1 ? -2 : right));
        list.test("with rules that match other packets", probe -> {
            Tried tried = probe.stripes(12);
            tried.due(-1).decide(12, 0, 0);
            tried.due(-1).decide(31, 31, 3);
        }, Faults.answers("decide", (a, right, table) -> right == -1 ? table.size() : right));
        list.test("with all rules taken out", probe -> {
            Tried tried = oneRule(probe, EVERY, EVERY, ALL);
            tried.due(0).decide(0, 0, 0);
            tried.due(0).remove(0);
            tried.due(-1).decide(0, 0, 0);
        }, answersAsBefore("decide"));
        list.test("the first packet alone has none", probe -> {
            Tried tried = allBut(probe, true);
            tried.due(-1).decide(0, 0, 0);
            tried.due(2).decide(0, 0, 1);
            tried.due(1).decide(0, 1, 0);
            tried.due(0).decide(1, 0, 0);
        }, Faults.takes("decide", (a, table) -> a[2] = Math.max(a[2], 1)));
        list.test("the last packet alone has none", probe -> {
            Tried tried = allBut(probe, false);
            tried.due(-1).decide(31, 31, 3);
            tried.due(2).decide(31, 31, 2);
            tried.due(1).decide(31, 30, 3);
            tried.due(0).decide(30, 31, 3);
        }, Faults.takes("decide", (a, table) -> a[2] = Math.min(a[2], 2)));
    }

    /** The first answer is given again whenever the same call is made. */
    private static Supplier<Table> answersAsBefore(String call) {
        return () -> {
            Map<String, Integer> known = new HashMap<>();
            return Faults.answers(call, (a, right, table) ->
                known.computeIfAbsent(Arrays.toString(a), key -> right)).get();
        };
    }

    private static void action(Boundaries list) {
        list.says("The packet's action");
        list.test("without a rule", probe -> {
            Tried tried = probe.fresh();
            tried.due(0).action(0, 0, 0);
            tried.due(0).otherwise(3);
            tried.due(3).action(0, 0, 0);
            tried.due(3).action(31, 31, 3);
        }, Faults.answers("action", (a, right, table) -> table.size() == 0 ? -1 : right),
            answersAsBefore("action"));
        list.test("the least, 0, of a rule, and the greatest, 3, by default", probe -> {
            Tried tried = oneRule(probe, range(0, 15), EVERY, kind(0, ALL));
            tried.due(0).otherwise(3);
            tried.due(0).action(15, 0, 0);
            tried.due(3).action(16, 0, 0);
        }, Faults.answers("action", (a, right, table) -> right == 0 ? 3 : right));
        list.test("the greatest, 3, of a rule, and the least, 0, by default", probe -> {
            Tried tried = oneRule(probe, range(0, 15), EVERY, kind(3, ALL));
            tried.due(3).action(15, 0, 0);
            tried.due(0).action(16, 0, 0);
        }, Faults.answers("action", (a, right, table) -> right == 3 ? 0 : right));
        list.test("the default for the first packet alone", probe -> {
            Tried tried = allBut(probe, true);
            tried.due(0).action(0, 0, 0);
            tried.due(1).action(0, 0, 1);
            tried.due(1).action(0, 1, 0);
            tried.due(1).action(1, 0, 0);
        }, Faults.takes("action", (a, table) -> a[2] = Math.max(a[2], 1)));
        list.test("the default for the last packet alone", probe -> {
            Tried tried = allBut(probe, false);
            tried.due(0).action(31, 31, 3);
            tried.due(1).action(31, 31, 2);
            tried.due(1).action(31, 30, 3);
            tried.due(1).action(30, 31, 3);
        }, Faults.takes("action", (a, table) -> a[2] = Math.min(a[2], 2)));
    }

    private static void ask(Table table, String call, int[] fields) {
        if (call.equals("decide")) {
            table.decide(fields[0], fields[1], fields[2]);
        } else {
            table.action(fields[0], fields[1], fields[2]);
        }
    }

    /** No packet, whether there is no rule, rules that do not match, or one that matches all. */
    private static void isNone(Probe probe, String call, int... fields) {
        ask(probe.fresh().due(-2), call, fields);
        ask(probe.stripes(12).due(-2), call, fields);
        Tried tried = oneRule(probe, EVERY, EVERY, kind(1, ALL));
        ask(tried.due(-2), call, fields);
        tried.due(4096).decided(0);
    }

    private static void noPacket(Boundaries list, String call) {
        String[] names = {"source", "destination", "sort"};
        int[] greatest = {31, 31, 3};
        list.says("-2 if it is no packet");
        for (int field = 0; field < 3; field++) {
            int at = field;
            int most = greatest[field];
            list.test(names[at] + " too small, -1", probe -> isNone(probe, call, with(at, -1)),
                Faults.takes(call, (a, table) -> a[at] = Math.max(a[at], 0)),
                Faults.answers(call, (a, right, table) -> right == -2 ? -1 : right));
            list.test(names[at] + " too small, far below", probe -> {
                isNone(probe, call, with(at, -most - 1));
                isNone(probe, call, with(at, -128));
                isNone(probe, call, with(at, LEAST));
            }, Faults.takes(call, (a, table) -> a[at] = a[at] < -1 ? a[at] & most : a[at]),
                Faults.takes(call, (a, table) -> a[at] = a[at] == LEAST ? 0 : a[at]));
            list.test(names[at] + " too large, " + (most + 1),
                probe -> isNone(probe, call, with(at, most + 1)),
                Faults.takes(call, (a, table) -> a[at] = a[at] == most + 1 ? 0 : a[at]),
                Faults.takes(call, (a, table) -> a[at] = a[at] == most + 1 ? most : a[at]),
                Faults.answers(call, (a, right, table) -> a[at] == most + 1 ? -1 : right));
            list.test(names[at] + " too large, far above", probe -> {
                isNone(probe, call, with(at, 2 * most + 2));
                isNone(probe, call, with(at, 4096));
                isNone(probe, call, with(at, MOST));
            }, Faults.takes(call, (a, table) -> a[at] = a[at] > most + 1 ? a[at] & most : a[at]),
                Faults.takes(call, (a, table) -> a[at] = a[at] == MOST ? most : a[at]));
        }
        list.test("fields that together make a packet's number", probe -> {
            isNone(probe, call, 0, 0, 4);
            isNone(probe, call, 0, 32, 0);
            isNone(probe, call, -1, 32, 0);
            isNone(probe, call, 1, -1, 0);
            isNone(probe, call, 0, 1, -1);
            isNone(probe, call, 0, 1023, 3);
            isNone(probe, call, 0, 0, 4095);
        }, Faults.takes(call, (a, table) -> byNumber(a, 128 * a[0] + 4 * a[1] + a[2])));
        list.test("fields that make a packet's number by wrapping around", probe -> {
            isNone(probe, call, 1 << 25, 0, 0);
            isNone(probe, call, -(1 << 25) + 1, 0, 0);
            isNone(probe, call, 0, 1 << 30, 0);
            isNone(probe, call, 0, LEAST, 3);
        }, Faults.takes(call, (a, table) -> {
            if (a[2] < 4 && (a[0] > 127 || a[0] < 0 || a[1] > 127 || a[1] < 0)) {
                byNumber(a, 128 * a[0] + 4 * a[1] + a[2]);
            }
        }));
        list.test("all three fields wrong", probe -> {
            isNone(probe, call, -1, -1, -1);
            isNone(probe, call, 32, 32, 4);
            isNone(probe, call, LEAST, LEAST, LEAST);
            isNone(probe, call, MOST, MOST, MOST);
        }, Faults.answers(call, (a, right, table) ->
            a[0] == a[1] && a[0] == a[2] && right == -2 ? -1 : right));
    }

    /** A packet's fields with this one in the place of a right one. */
    private static int[] with(int field, int value) {
        int[] fields = {2, 3, 1};
        fields[field] = value;
        return fields;
    }

    private static void byNumber(int[] fields, int number) {
        if (number >= 0 && number < 4096) {
            fields[0] = number / 128;
            fields[1] = number / 4 % 32;
            fields[2] = number % 4;
        }
    }

    // Promise 8

    private static void decided(Boundaries list) {
        list.says("How many packets the rule at the place decides");
        list.test("none", probe -> {
            oneRule(probe, range(1, 0), EVERY, ALL).due(0).decided(0);
            oneRule(probe, EVERY, EVERY, 0).due(0).decided(0);
        }, Faults.answers("decided", (a, right, table) -> right == 0 ? -1 : right));
        list.test("none, for rules before it decide all that it matches", probe -> {
            Tried tried = oneRule(probe, EVERY, EVERY, ALL);
            tried.due(2).insert(1, EVERY, EVERY, ALL);
            tried.due(0).decided(1);
            tried.due(4096).decided(0);
        }, Faults.answers("decided", (a, right, table) -> 4096));
        list.test("one, the first packet",
            probe -> oneRule(probe, 0, 0, 1).due(1).decided(0),
            Faults.answers("decided", (a, right, table) -> right == 1 ? 0 : right));
        list.test("one, the last packet",
            probe -> oneRule(probe, 1023, 1023, 8).due(1).decided(0),
            Faults.answers("decided", (a, right, table) -> right == 1 ? 0 : right));
        list.test("all", probe -> oneRule(probe, EVERY, EVERY, ALL).due(4096).decided(0),
            Faults.answers("decided", (a, right, table) -> Math.min(right, 4095)));
        list.test("the last of twelve rules", probe -> probe.stripes(12).due(42).decided(11),
            Faults.answers("decided", (a, right, table) -> a[0] == 11 ? -2 : right));

        list.says("for place -1, how many no rule matches");
        list.test("all, without a rule", probe -> probe.fresh().due(4096).decided(-1),
            Faults.answers("decided", (a, right, table) -> a[0] == -1 ? -2 : right));
        list.test("all, if the rules hold nothing", probe -> {
            Tried tried = oneRule(probe, range(1, 0), EVERY, ALL);
            tried.due(2).insert(0, EVERY, EVERY, 16);
            tried.due(4096).decided(-1);
        }, Faults.answers("decided", (a, right, table) -> table.size() > 0 && a[0] == -1
            ? 0 : right));
        list.test("none, if every packet is matched", probe -> {
            Tried tried = oneRule(probe, range(0, 15), EVERY, ALL);
            tried.due(2).insert(0, range(16, 31), EVERY, ALL);
            tried.due(0).decided(-1);
        }, Faults.answers("decided", (a, right, table) -> right == 0 ? -1 : right));
        list.test("one, the first packet", probe -> allBut(probe, true).due(1).decided(-1),
            Faults.answers("decided", (a, right, table) -> right == 1 ? 0 : right));
        list.test("one, the last packet", probe -> allBut(probe, false).due(1).decided(-1),
            Faults.answers("decided", (a, right, table) -> right == 1 ? 0 : right));
    }

    private static void askPlace(Table table, String call, int place) {
        switch (call) {
            case "decided" -> table.decided(place);
            case "witness" -> table.witness(place);
            default -> table.use(place);
        }
    }

    private static void isNoPlace(Probe probe, String call, int rules, int place) {
        Tried tried = probe.stripes(rules);
        askPlace(tried.due(-2), call, place);
        tried.holdsFirstStripes(rules);
    }

    /** For the calls that know a place -1. */
    private static void noPlace(Boundaries list, String call) {
        list.says("-2 if place is neither -1 nor that of a rule");
        list.test("too small, -2", probe -> {
            isNoPlace(probe, call, 0, -2);
            isNoPlace(probe, call, 3, -2);
        }, Faults.takes(call, (a, table) -> a[0] = Math.max(a[0], -1)),
            Faults.answers(call, (a, right, table) -> a[0] < -1 ? -1 : right),
            Faults.answers(call, (a, right, table) -> a[0] < -1 ? 0 : right));
        list.test("too small, the least number", probe -> isNoPlace(probe, call, 3, LEAST),
            Faults.takes(call, (a, table) -> a[0] = a[0] & 15));
        largePlaces(list, call);
    }

    private static void largePlaces(Boundaries list, String call) {
        list.test("too large, 0, without a rule", probe -> isNoPlace(probe, call, 0, 0),
            Faults.answers(call, (a, right, table) -> table.size() == 0 && a[0] == 0 ? 0 : right),
            Faults.answers(call, (a, right, table) -> table.size() == 0 && a[0] == 0 ? -1 : right),
            Faults.answers(call, (a, right, table) -> table.size() == 0 && a[0] == 0 ? 1 : right));
        list.test("too large, the number of rules", probe -> {
            isNoPlace(probe, call, 1, 1);
            isNoPlace(probe, call, 3, 3);
        }, Faults.takes(call, (a, table) -> a[0] = Math.min(a[0], table.size() - 1)),
            Faults.answers(call, (a, right, table) -> a[0] == table.size() ? 0 : right),
            Faults.answers(call, (a, right, table) -> a[0] == table.size() ? 1 : right));
        list.test("too large, 11, with eleven rules", probe -> isNoPlace(probe, call, 11, 11),
            Faults.answers(call, (a, right, table) -> a[0] == 11 ? 1 : right));
        list.test("too large, 12, with twelve rules", probe -> isNoPlace(probe, call, 12, 12),
            Faults.takes(call, (a, table) -> a[0] = Math.min(a[0], 11)));
        list.test("too large, the greatest number", probe -> isNoPlace(probe, call, 3, MOST),
            Faults.takes(call, (a, table) -> a[0] = a[0] == MOST ? 0 : a[0]));
        list.test("too large, the place of a rule that has been taken out", probe -> {
            Tried tried = probe.stripes(3);
            tried.due(2).remove(0);
            askPlace(tried.due(-2), call, 2);
            tried.holdsStripes(1, 2);
        }, Faults.answers(call, (a, right, table) -> a[0] == 2 && table.size() == 2 ? 1 : right));
    }

    // Promise 9

    /** A table in which the actions 0 to 3 have 128, 160, 96 and 3712 packets. */
    private static Tried unevenActions(Probe probe) {
        Tried tried = oneRule(probe, range(0, 0), EVERY, kind(0, ALL));
        tried.due(2).insert(1, range(1, 1), EVERY, kind(2, 7));
        tried.due(3).insert(2, range(0, 2), EVERY, kind(1, ALL));
        tried.due(0).otherwise(3);
        return tried;
    }

    private static void having(Boundaries list) {
        list.says("How many packets have the action action & 3");
        list.test("the least action, 0", probe -> unevenActions(probe).due(128).having(0),
            Faults.takes("having", (a, table) -> a[0] = Math.max(a[0], 1)));
        list.test("the greatest action, 3", probe -> unevenActions(probe).due(3712).having(3),
            Faults.takes("having", (a, table) -> a[0] = Math.min(a[0], 2)));
        list.test("above: 4, 5, 6 and 7 wrap around to 0, 1, 2 and 3", probe -> {
            Tried tried = unevenActions(probe);
            tried.due(128).having(4);
            tried.due(160).having(5);
            tried.due(96).having(6);
            tried.due(3712).having(7);
        }, Faults.takes("having", (a, table) -> a[0] = Math.min(a[0], 3)),
            Faults.answers("having", (a, right, table) -> a[0] > 3 ? 0 : right));
        list.test("above: the greatest number wraps around to 3", probe -> {
            Tried tried = unevenActions(probe);
            tried.due(3712).having(MOST);
            tried.due(128).having(MOST - 3);
        }, Faults.answers("having", (a, right, table) -> a[0] > 7 ? 0 : right));
        list.test("below: -1, -2, -3 and -4 wrap around to 3, 2, 1 and 0", probe -> {
            Tried tried = unevenActions(probe);
            tried.due(3712).having(-1);
            tried.due(96).having(-2);
            tried.due(160).having(-3);
            tried.due(128).having(-4);
        }, Faults.takes("having", (a, table) -> a[0] = Math.max(a[0], 0)),
            Faults.takes("having", (a, table) -> a[0] = Math.abs(a[0])),
            Faults.answers("having", (a, right, table) -> a[0] < 0 ? 0 : right),
            Faults.answers("having", (a, right, table) -> a[0] % 4 < 0 ? -2 : right));
        list.test("below: the least number wraps around to 0", probe -> {
            Tried tried = unevenActions(probe);
            tried.due(128).having(LEAST);
            tried.due(3712).having(LEAST + 3);
        }, Faults.answers("having", (a, right, table) -> a[0] < -4 ? 0 : right));
        list.test("none", probe -> {
            Tried tried = oneRule(probe, EVERY, EVERY, kind(2, ALL));
            tried.due(0).having(0);
            tried.due(0).having(1);
            tried.due(0).having(3);
        }, Faults.answers("having", (a, right, table) -> right == 0 ? -1 : right));
        list.test("all, by a rule", probe -> {
            oneRule(probe, EVERY, EVERY, kind(2, ALL)).due(4096).having(2);
        }, Faults.answers("having", (a, right, table) -> Math.min(right, 4095)));
        list.test("all, by default", probe -> {
            Tried tried = probe.fresh();
            tried.due(0).otherwise(2);
            tried.due(4096).having(2);
        }, Faults.answers("having", (a, right, table) -> right - table.decided(-1)));
        list.test("all, by a rule and by default", probe -> {
            Tried tried = oneRule(probe, range(0, 15), EVERY, kind(2, ALL));
            tried.due(0).otherwise(2);
            tried.due(4096).having(2);
        }, Faults.answers("having", (a, right, table) -> right - table.decided(-1)),
            Faults.answers("having", (a, right, table) -> right - table.decided(0)));
        list.test("one, the first packet", probe -> {
            oneRule(probe, 0, 0, kind(2, 1)).due(1).having(2);
            allBut(probe, true).due(1).having(0);
        }, Faults.answers("having", (a, right, table) -> right == 1 ? 0 : right));
        list.test("one, the last packet", probe -> {
            oneRule(probe, 1023, 1023, kind(2, 8)).due(1).having(2);
            allBut(probe, false).due(1).having(0);
        }, Faults.answers("having", (a, right, table) -> right == 1 ? 0 : right));
    }

    // Promise 10

    private static void use(Boundaries list) {
        list.says("1 if the rule at the place is dead, 2 if it is not dead but idle, "
            + "0 if neither");
        list.test("1 for a dead rule, though leaving it out would change nothing either", probe -> {
            oneRule(probe, range(1, 0), EVERY, kind(1, ALL)).due(1).use(0);
            oneRule(probe, range(1, 0), EVERY, kind(0, ALL)).due(1).use(0);
        }, Faults.answers("use", (a, right, table) -> right == 1 ? 2 : right));
        list.test("1 for all but the first of twelve that match all", probe -> {
            Tried tried = probe.fresh();
            for (int count = 1; count <= 12; count++) {
                tried.due(count).insert(count - 1, EVERY, EVERY, kind(count % 4, ALL));
            }
            tried.due(0).use(0);
            for (int place = 1; place < 12; place++) {
                tried.due(1).use(place);
            }
        }, Faults.answers("use", (a, right, table) -> a[0] == 11 ? 0 : right),
            Faults.answers("use", (a, right, table) -> a[0] == 1 ? 0 : right));
        list.test("2 for an idle rule of one packet, the first", probe -> {
            oneRule(probe, 0, 0, kind(0, 1)).due(2).use(0);
        }, Faults.answers("use", (a, right, table) -> table.decided(0) == 1 ? 1 : right));
        list.test("2 for an idle rule of one packet, the last", probe -> {
            oneRule(probe, 1023, 1023, kind(0, 8)).due(2).use(0);
        }, Faults.answers("use", (a, right, table) -> table.decided(0) == 1 ? 1 : right));
        list.test("2 for an idle rule of all packets", probe -> {
            oneRule(probe, EVERY, EVERY, kind(0, ALL)).due(2).use(0);
        }, Faults.answers("use", (a, right, table) -> right == 2 ? 0 : right));
        list.test("0 for a rule of one packet that matters, the first", probe -> {
            oneRule(probe, 0, 0, kind(1, 1)).due(0).use(0);
        }, Faults.answers("use", (a, right, table) -> table.decided(0) == 1 ? 1 : right),
            Faults.answers("use", (a, right, table) -> table.decided(0) == 1 ? 2 : right));
        list.test("0 for a rule of one packet that matters, the last", probe -> {
            oneRule(probe, 1023, 1023, kind(1, 8)).due(0).use(0);
        }, Faults.answers("use", (a, right, table) -> table.decided(0) == 1 ? 1 : right),
            Faults.answers("use", (a, right, table) -> table.decided(0) == 1 ? 2 : right));
        list.test("0, 2 and 1 for the last of twelve", probe -> {
            Tried tried = probe.stripes(12);
            tried.due(0).use(11);
            tried.due(2).otherwise(0);
            tried.due(2).use(11);
            tried.due(11).remove(11);
            tried.due(12).insert(11, range(10, 10), range(20, 25), kind(3, 3));
            tried.due(1).use(11);
        }, Faults.answers("use", (a, right, table) -> a[0] == 11 ? -2 : right),
            Faults.answers("use", (a, right, table) -> a[0] == 11 && right > 0 ? 0 : right));
    }

    private static void noRule(Boundaries list) {
        list.says("-2 if there is no such rule");
        list.test("too small, -1", probe -> {
            isNoPlace(probe, "use", 0, -1);
            isNoPlace(probe, "use", 3, -1);
        }, Faults.answers("use", (a, right, table) -> a[0] == -1 ? 1 : right),
            Faults.answers("use", (a, right, table) -> a[0] == -1 ? 0 : right),
            Faults.answers("use", (a, right, table) -> a[0] == -1 ? -1 : right),
            Faults.takes("use", (a, table) -> a[0] = Math.max(a[0], 0)));
        list.test("too small, the least number", probe -> isNoPlace(probe, "use", 3, LEAST),
            Faults.takes("use", (a, table) -> a[0] = a[0] & 15));
        largePlaces(list, "use");
    }

    // Promise 11

    private static void witness(Boundaries list) {
        list.says("The least packet (by 128 * source + 4 * destination + sort) "
            + "that the rule at the place decides");
        list.test("the first packet, 0, of all", probe ->
                oneRule(probe, EVERY, EVERY, ALL).due(0).witness(0),
            Faults.answers("witness", (a, right, table) -> right == 0 ? 1 : right), greatest());
        list.test("the first packet, 0, the only one", probe ->
                oneRule(probe, 0, 0, 1).due(0).witness(0),
            Faults.answers("witness", (a, right, table) -> right == 0 ? -1 : right));
        list.test("the last packet, 4095, the only one", probe ->
                oneRule(probe, 1023, 1023, 8).due(4095).witness(0),
            Faults.answers("witness", (a, right, table) -> right == 4095 ? -1 : right));
        list.test("the ends of the ranges", probe ->
                oneRule(probe, range(3, 31), range(5, 31), 12).due(128 * 3 + 4 * 5 + 2).witness(0),
            greatest(), Faults.answers("witness", (a, right, table) -> right + 1));
        list.test("the last of its packets, where rules before it have the others", probe -> {
            Tried tried = oneRule(probe, range(3, 6), range(5, 9), kind(1, 3));
            tried.due(2).insert(0, range(3, 5), EVERY, ALL);
            tried.due(3).insert(0, EVERY, range(5, 8), ALL);
            tried.due(4).insert(0, EVERY, EVERY, 1);
            tried.due(128 * 6 + 4 * 9 + 1).witness(3);
        }, Faults.answers("witness", (a, right, table) -> 128 * 3 + 4 * 5));
        list.test("a smaller source goes before a smaller destination", probe -> {
            Tried tried = probe.fresh();
            tried.due(1).insert(0, range(4, 5), range(0, 31), kind(1, ALL));
            tried.due(2).insert(0, range(4, 4), range(0, 30), kind(1, ALL));
            tried.due(128 * 4 + 4 * 31).witness(1);
        }, leastBy(packet -> packet / 4 % 32));
        list.test("a smaller source goes before a smaller sort", probe -> {
            Tried tried = probe.fresh();
            tried.due(1).insert(0, range(4, 5), range(7, 7), kind(1, ALL));
            tried.due(2).insert(0, range(4, 4), range(7, 7), kind(1, 7));
            tried.due(128 * 4 + 4 * 7 + 3).witness(1);
        }, leastBy(packet -> packet % 4));
        list.test("a smaller destination goes before a smaller sort", probe -> {
            Tried tried = probe.fresh();
            tried.due(1).insert(0, range(4, 4), range(7, 8), kind(1, ALL));
            tried.due(2).insert(0, range(4, 4), range(7, 7), kind(1, 7));
            tried.due(128 * 4 + 4 * 7 + 3).witness(1);
        }, leastBy(packet -> packet % 4));
        list.test("the last of twelve rules",
            probe -> probe.stripes(12).due(128 * 11 + 4 * 11 + 2).witness(11),
            Faults.answers("witness", (a, right, table) -> a[0] == 11 ? -2 : right));

        list.says("(for place -1: that no rule matches), as that number");
        list.test("the first packet, 0, without a rule",
            probe -> probe.fresh().due(0).witness(-1),
            Faults.answers("witness", (a, right, table) -> a[0] == -1 ? -2 : right),
            Faults.answers("witness", (a, right, table) -> a[0] == -1 ? -1 : right));
        list.test("the first packet, 0, the only one",
            probe -> allBut(probe, true).due(0).witness(-1),
            Faults.answers("witness", (a, right, table) -> right == 0 ? -1 : right));
        list.test("the last packet, 4095, the only one",
            probe -> allBut(probe, false).due(4095).witness(-1),
            Faults.answers("witness", (a, right, table) -> right == 4095 ? -1 : right));
        list.test("the packet behind those that are matched", probe -> {
            oneRule(probe, 0, 0, 1).due(1).witness(-1);
            oneRule(probe, 0, 0, ALL).due(4).witness(-1);
            oneRule(probe, 0, EVERY, ALL).due(128).witness(-1);
        }, Faults.answers("witness", (a, right, table) -> a[0] == -1 ? 0 : right));

        list.says("-1 if there is none");
        list.test("a rule that matches none", probe -> {
            oneRule(probe, range(1, 0), EVERY, ALL).due(-1).witness(0);
            oneRule(probe, EVERY, EVERY, 0).due(-1).witness(0);
        }, Faults.answers("witness", (a, right, table) -> right == -1 ? -2 : right),
            Faults.answers("witness", (a, right, table) -> right == -1 ? 4096 : right),
            Faults.answers("witness", (a, right, table) -> right == -1 ? 0 : right));
        list.test("a rule whose packets are all decided before", probe -> {
            Tried tried = oneRule(probe, EVERY, EVERY, ALL);
            tried.due(2).insert(1, EVERY, EVERY, ALL);
            tried.due(-1).witness(1);
        }, Faults.answers("witness", (a, right, table) -> a[0] == 1 ? 0 : right));
        list.test("place -1, where every packet is matched", probe -> {
            Tried tried = oneRule(probe, range(0, 15), EVERY, ALL);
            tried.due(2).insert(0, range(16, 31), EVERY, ALL);
            tried.due(-1).witness(-1);
        }, Faults.answers("witness", (a, right, table) -> right == -1 ? 4096 : right),
            Faults.answers("witness", (a, right, table) -> a[0] == -1 ? -2 : right));
    }

    private static Supplier<Table> greatest() {
        return leastBy(packet -> -packet);
    }

    /** witness takes the packets in another order. */
    private static Supplier<Table> leastBy(IntUnaryOperator order) {
        return Faults.answers("witness", (a, right, table) -> right < 0 ? right
            : table.packetsDecided(a[0]).stream()
                .min(Comparator.comparingInt(order::applyAsInt)).orElse(-1));
    }
}
