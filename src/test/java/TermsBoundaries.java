import java.util.List;
import java.util.function.Supplier;

/** The boundary cases that the sections "What it is" and "Terms" name. */
final class TermsBoundaries {
    private static final int EVERY = Tried.EVERY;
    private static final int ALL = Tried.ALL;

    private TermsBoundaries() {
    }

    static void addTo(Boundaries list) {
        list.section("What it is");
        calls(list);
        list.section("Terms");
        packets(list);
        places(list);
        parts(list);
        endsOfSources(list);
        endsOfDestinations(list);
        sets(list);
        emptyRanges(list);
        deciding(list);
        dead(list);
        idle(list);
    }

    private static int range(int first, int last) {
        return Tried.range(first, last);
    }

    private static int kind(int action, int sorts) {
        return Tried.kind(action, sorts);
    }

    /** A table with one rule of the action 1. */
    private static Tried oneRule(Probe probe, int sources, int destinations, int sorts) {
        Tried tried = probe.fresh();
        tried.due(1).insert(0, sources, destinations, kind(1, sorts));
        return tried;
    }

    private static Tried matchingAll(Probe probe) {
        return oneRule(probe, EVERY, EVERY, ALL);
    }

    /** A table with two stripes that has had this many calls. */
    private static Tried after(Probe probe, int calls) {
        Tried tried = probe.stripes(2);
        for (int made = 3; made < calls; made++) {
            tried.due(2).otherwise(2);
        }
        return tried;
    }

    private static void calls(Boundaries list) {
        list.says("An object is used for at most 512 calls after it has been made");
        list.test("insert and remove up to the 512th call", probe -> {
            Tried tried = probe.fresh();
            for (int count = 0; count < 256; count++) {
                tried.due(1).insert(0, EVERY, EVERY, ALL);
                tried.due(0).remove(0);
            }
        }, Faults.tiresAfter(511), Faults.tiresAfter(255));
        list.test("insert as the 512th call",
            probe -> after(probe, 511).due(3).insert(0, 0, 0, 0), Faults.tiresAfter(511));
        list.test("shift as the 512th call",
            probe -> after(probe, 511).due(0).shift(0, 1), Faults.tiresAfter(511));
        list.test("otherwise as the 512th call",
            probe -> after(probe, 511).due(2).otherwise(1), Faults.tiresAfter(511));
        list.test("decide as the 512th call",
            probe -> after(probe, 511).due(1).decide(1, 1, 1), Faults.tiresAfter(511));
        list.test("action as the 512th call",
            probe -> after(probe, 511).due(1).action(0, 0, 0), Faults.tiresAfter(511));
        list.test("decided as the 512th call",
            probe -> after(probe, 511).due(31).decided(1), Faults.tiresAfter(511));
        list.test("having as the 512th call",
            probe -> after(probe, 511).due(4064).having(2), Faults.tiresAfter(511));
        list.test("use as the 512th call",
            probe -> after(probe, 511).due(2).use(1), Faults.tiresAfter(511));
        list.test("witness as the 512th call",
            probe -> after(probe, 511).due(133).witness(1), Faults.tiresAfter(511));
        list.test("a change by the 511th call, seen in the 512th", probe -> {
            Tried tried = after(probe, 510);
            tried.due(0).shift(0, 1);
            tried.due(1).decide(0, 0, 0);
        }, Faults.tiresAfter(511), Faults.tiresAfter(510));
    }

    private static void packets(Boundaries list) {
        list.says("A PACKET has a SOURCE and a DESTINATION, each from 0 to 31, "
            + "and a SORT from 0 to 3");
        list.test("the least source, 0, is one",
            probe -> matchingAll(probe).due(0).decide(0, 5, 1),
            refusesPacket(0, 0));
        list.test("the greatest source, 31, is one",
            probe -> matchingAll(probe).due(0).decide(31, 5, 1),
            refusesPacket(0, 31));
        list.test("the least destination, 0, is one",
            probe -> matchingAll(probe).due(0).decide(5, 0, 1),
            refusesPacket(1, 0));
        list.test("the greatest destination, 31, is one",
            probe -> matchingAll(probe).due(0).decide(5, 31, 1),
            refusesPacket(1, 31));
        list.test("the least sort, 0, is one",
            probe -> matchingAll(probe).due(0).decide(5, 5, 0),
            refusesPacket(2, 0));
        list.test("the greatest sort, 3, is one",
            probe -> matchingAll(probe).due(0).decide(5, 5, 3),
            refusesPacket(2, 3));
        // That -1, 32 and 4 are none stands with promises 6 and 7.

        list.says("so there are 4096 different packets");
        list.test("without a rule, no rule matches 4096",
            probe -> probe.fresh().due(4096).decided(-1),
            Faults.answers("decided", (a, right, table) -> right - 1));
        list.test("a rule for all decides 4096", probe -> {
            Tried tried = matchingAll(probe);
            tried.due(4096).decided(0);
            tried.due(0).decided(-1);
        }, Faults.answers("decided", (a, right, table) -> Math.min(right, 4095)));
        list.test("all 4096 have an action", probe -> {
            Tried tried = oneRule(probe, range(0, 15), EVERY, ALL);
            tried.due(2048).having(0);
            tried.due(2048).having(1);
        }, Faults.answers("having", (a, right, table) -> right - 1));
        list.test("the first packet is among those counted", probe -> {
            Tried tried = oneRule(probe, 0, 0, 1);
            tried.due(1).decided(0);
            tried.due(4095).decided(-1);
            tried.due(1).having(1);
            tried.due(0).witness(0);
            tried.due(0).use(0);
        }, missesPacket("decided", 0), missesPacket("having", 0));
        list.test("the last packet is among those counted", probe -> {
            Tried tried = oneRule(probe, 1023, 1023, 8);
            tried.due(1).decided(0);
            tried.due(4095).decided(-1);
            tried.due(1).having(1);
            tried.due(4095).witness(0);
            tried.due(0).use(0);
        }, missesPacket("decided", 4095), missesPacket("having", 4095));
    }

    /** decide takes the packets with this value in this field for none. */
    private static Supplier<Table> refusesPacket(int field, int value) {
        return Faults.answers("decide", (a, right, table) -> a[field] == value ? -2 : right);
    }

    /** The count of the call leaves this packet out. */
    private static Supplier<Table> missesPacket(String call, int packet) {
        return Faults.answers(call, (a, right, table) -> {
            boolean counted = call.equals("decided")
                ? table.packetsDecided(a[0]).contains(packet)
                : table.action(packet / 128, packet / 4 % 32, packet % 4) == a[0];
            return counted ? right - 1 : right;
        });
    }

    private static void places(Boundaries list) {
        list.says("RULES stand in an order, the first one first, "
            + "counted by their PLACES from 0");
        list.test("the first rule has the place 0", probe -> {
            Tried tried = probe.stripes(2);
            tried.due(0).decide(0, 0, 0);
            tried.due(0).witness(0);
            tried.due(32).decided(0);
            tried.due(0).use(0);
        }, Faults.answers("decide", (a, right, table) -> right + 1),
            Faults.takes("witness", (a, table) -> a[0]--),
            Faults.takes("use", (a, table) -> a[0]--));
        list.test("the last of twelve has the place 11", probe -> {
            Tried tried = probe.stripes(12);
            tried.due(11).decide(11, 11, 2);
            tried.due(128 * 11 + 4 * 11 + 2).witness(11);
            tried.due(42).decided(11);
            tried.due(0).use(11);
        }, Faults.answers("decide", (a, right, table) -> Math.min(right, 10)),
            Faults.answers("witness", (a, right, table) -> a[0] == 11 ? -2 : right),
            Faults.answers("decided", (a, right, table) -> a[0] == 11 ? -2 : right),
            Faults.answers("use", (a, right, table) -> a[0] == 11 ? -2 : right));

        list.says("there are at most 12");
        list.test("the twelfth goes in", probe -> {
            Tried tried = probe.stripes(11);
            tried.putStripe(11, 11, 12);
            tried.holdsFirstStripes(12);
        }, withMost(11));
        list.test("the thirteenth does not", probe -> {
            Tried tried = probe.stripes(12);
            tried.due(-1).insert(12, range(12, 12), EVERY, kind(1, ALL));
            tried.holdsFirstStripes(12);
        }, withMost(13));
    }

    private static Supplier<Table> withMost(int rules) {
        return () -> new Reference() {
            @Override
            int mostRules() {
                return rules;
            }
        };
    }

    private static void parts(Boundaries list) {
        list.says("A rule has a range of sources (from s1 to s2), a range of destinations "
            + "(from d1 to d2), a set of sorts, and an ACTION from 0 to 3");
        list.test("the least action, 0, unlike the default", probe -> {
            Tried tried = probe.fresh();
            tried.due(0).otherwise(2);
            tried.due(1).insert(0, EVERY, EVERY, kind(0, ALL));
            tried.due(0).action(0, 0, 0);
            tried.due(4096).having(0);
            tried.due(0).use(0);
        }, Faults.takes("insert", (a, table) -> a[3] = a[3] < 16 ? a[3] + 32 : a[3]));
        list.test("the greatest action, 3", probe -> {
            Tried tried = probe.fresh();
            tried.due(1).insert(0, EVERY, EVERY, kind(3, ALL));
            tried.due(3).action(0, 0, 0);
            tried.due(4096).having(3);
            tried.due(0).use(0);
        }, Faults.takes("insert", (a, table) -> a[3] = a[3] >= 48 ? a[3] - 16 : a[3]));
    }

    private static void endsOfSources(Boundaries list) {
        list.says("It MATCHES a packet if the packet's source and destination lie in the ranges "
            + "(ends included)");
        list.test("the first source of the range is in it",
            probe -> oneRule(probe, range(3, 6), EVERY, ALL).due(0).decide(3, 9, 1),
            sources((first, last, value) -> first < value && value <= last));
        list.test("the last source of the range is in it",
            probe -> oneRule(probe, range(3, 6), EVERY, ALL).due(0).decide(6, 9, 1),
            sources((first, last, value) -> first <= value && value < last));
        list.test("the source before the first is not in the range",
            probe -> oneRule(probe, range(3, 6), EVERY, ALL).due(-1).decide(2, 9, 1),
            sources((first, last, value) -> first - 1 <= value && value <= last));
        list.test("the source behind the last is not in the range",
            probe -> oneRule(probe, range(3, 6), EVERY, ALL).due(-1).decide(7, 9, 1),
            sources((first, last, value) -> first <= value && value <= last + 1));
        list.test("a range of one source holds that one alone", probe -> {
            Tried tried = oneRule(probe, range(4, 4), EVERY, ALL);
            tried.due(0).decide(4, 9, 1);
            tried.due(-1).decide(3, 9, 1);
            tried.due(-1).decide(5, 9, 1);
            tried.due(128).decided(0);
        }, sources((first, last, value) -> first < last && first <= value && value <= last));
        list.test("the range from 0 to 31 holds every source", probe -> {
            Tried tried = oneRule(probe, range(0, 31), range(9, 9), 2);
            tried.due(32).decided(0);
            tried.due(0).decide(0, 9, 1);
            tried.due(0).decide(31, 9, 1);
        }, sources((first, last, value) -> first <= value && value <= last && value > 0),
            sources((first, last, value) -> first <= value && value <= last && value < 31));
        list.test("the range from 0 to 0 holds the source 0 alone", probe -> {
            Tried tried = oneRule(probe, range(0, 0), EVERY, ALL);
            tried.due(0).decide(0, 9, 1);
            tried.due(128).decided(0);
            tried.due(0).witness(0);
        }, sources((first, last, value) -> last == 0 || first <= value && value <= last),
            sources((first, last, value) -> last > 0 && first <= value && value <= last));
        list.test("the range from 31 to 31 holds the source 31 alone", probe -> {
            Tried tried = oneRule(probe, range(31, 31), EVERY, ALL);
            tried.due(0).decide(31, 9, 1);
            tried.due(128).decided(0);
            tried.due(128 * 31).witness(0);
        }, sources((first, last, value) -> first < 31 && first <= value && value <= last),
            sources((first, last, value) -> last == 31 || first <= value && value <= last));
    }

    private static void endsOfDestinations(Boundaries list) {
        list.test("the first destination of the range is in it",
            probe -> oneRule(probe, EVERY, range(3, 6), ALL).due(0).decide(9, 3, 1),
            destinations((first, last, value) -> first < value && value <= last));
        list.test("the last destination of the range is in it",
            probe -> oneRule(probe, EVERY, range(3, 6), ALL).due(0).decide(9, 6, 1),
            destinations((first, last, value) -> first <= value && value < last));
        list.test("the destination before the first is not in the range",
            probe -> oneRule(probe, EVERY, range(3, 6), ALL).due(-1).decide(9, 2, 1),
            destinations((first, last, value) -> first - 1 <= value && value <= last));
        list.test("the destination behind the last is not in the range",
            probe -> oneRule(probe, EVERY, range(3, 6), ALL).due(-1).decide(9, 7, 1),
            destinations((first, last, value) -> first <= value && value <= last + 1));
        list.test("a range of one destination holds that one alone", probe -> {
            Tried tried = oneRule(probe, EVERY, range(4, 4), ALL);
            tried.due(0).decide(9, 4, 1);
            tried.due(-1).decide(9, 3, 1);
            tried.due(-1).decide(9, 5, 1);
            tried.due(128).decided(0);
        }, destinations((first, last, value) -> first < last && first <= value && value <= last));
        list.test("the range from 0 to 31 holds every destination", probe -> {
            Tried tried = oneRule(probe, range(9, 9), range(0, 31), 2);
            tried.due(32).decided(0);
            tried.due(0).decide(9, 0, 1);
            tried.due(0).decide(9, 31, 1);
        }, destinations((first, last, value) -> first <= value && value <= last && value > 0),
            destinations((first, last, value) -> first <= value && value <= last && value < 31));
        list.test("the range from 0 to 0 holds the destination 0 alone", probe -> {
            Tried tried = oneRule(probe, EVERY, range(0, 0), ALL);
            tried.due(0).decide(9, 0, 1);
            tried.due(128).decided(0);
            tried.due(0).witness(0);
        }, destinations((first, last, value) -> last == 0 || first <= value && value <= last),
            destinations((first, last, value) -> last > 0 && first <= value && value <= last));
        list.test("the range from 31 to 31 holds the destination 31 alone", probe -> {
            Tried tried = oneRule(probe, EVERY, range(31, 31), ALL);
            tried.due(0).decide(9, 31, 1);
            tried.due(128).decided(0);
            tried.due(4 * 31).witness(0);
        }, destinations((first, last, value) -> first < 31 && first <= value && value <= last),
            destinations((first, last, value) -> last == 31 || first <= value && value <= last));
    }

    /** Whether the range from first to last holds the value. */
    private interface Holding {
        boolean holds(int first, int last, int value);
    }

    private static Supplier<Table> sources(Holding holding) {
        return () -> new Reference() {
            @Override
            boolean holdsSource(int first, int last, int source) {
                return holding.holds(first, last, source);
            }
        };
    }

    private static Supplier<Table> destinations(Holding holding) {
        return () -> new Reference() {
            @Override
            boolean holdsDestination(int first, int last, int destination) {
                return holding.holds(first, last, destination);
            }
        };
    }

    private static void sets(Boundaries list) {
        list.says("and its sort is in the set");
        list.test("the set of none holds no sort", probe -> {
            Tried tried = oneRule(probe, EVERY, EVERY, 0);
            for (int sort = 0; sort < 4; sort++) {
                tried.due(-1).decide(9, 9, sort);
            }
            tried.due(0).decided(0);
        }, sorts((set, sort) -> set == 0 || (set >> sort & 1) == 1));
        list.test("the set of all holds every sort", probe -> {
            Tried tried = oneRule(probe, EVERY, EVERY, ALL);
            for (int sort = 0; sort < 4; sort++) {
                tried.due(0).decide(9, 9, sort);
            }
            tried.due(4096).decided(0);
        }, sorts((set, sort) -> sort > 0 && (set >> sort & 1) == 1),
            sorts((set, sort) -> sort < 3 && (set >> sort & 1) == 1));
        list.test("the set of the least sort alone", probe -> oneSort(probe, 0),
            sorts((set, sort) -> set > 1 && (set >> sort & 1) == 1),
            sorts((set, sort) -> (set >> Math.max(sort - 1, 0) & 1) == 1));
        list.test("the set of the greatest sort alone", probe -> oneSort(probe, 3),
            sorts((set, sort) -> set != 8 && (set >> sort & 1) == 1),
            sorts((set, sort) -> (set >> Math.min(sort + 1, 3) & 1) == 1));
    }

    private static void oneSort(Probe probe, int only) {
        Tried tried = oneRule(probe, EVERY, EVERY, 1 << only);
        for (int sort = 0; sort < 4; sort++) {
            tried.due(sort == only ? 0 : -1).decide(9, 9, sort);
        }
        tried.due(1024).decided(0);
        tried.due(only).witness(0);
    }

    private interface Membership {
        boolean holds(int set, int sort);
    }

    private static Supplier<Table> sorts(Membership membership) {
        return () -> new Reference() {
            @Override
            boolean holdsSort(int sorts, int sort) {
                return membership.holds(sorts, sort);
            }
        };
    }

    private static void emptyRanges(Boundaries list) {
        Holding swapped = (first, last, value) ->
            Math.min(first, last) <= value && value <= Math.max(first, last);
        Holding wrapped = (first, last, value) -> first <= last
            ? first <= value && value <= last : first <= value || value <= last;
        Holding endsAlone = (first, last, value) ->
            first <= value && value <= last || value == first && first > last
                || value == last && first > last;
        Holding onlyFarApart = (first, last, value) -> first == last + 1
            ? value == last : first <= value && value <= last;

        list.says("A range whose first number is above the second holds nothing");
        list.test("sources, the first number far above", probe ->
                holdNothing(probe, true, List.of(range(31, 0), range(31, 1), range(20, 4))),
            sources(swapped), sources(wrapped), sources(endsAlone));
        list.test("sources, the first number one above", probe ->
                holdNothing(probe, true, List.of(range(1, 0), range(16, 15), range(31, 30))),
            sources(swapped), sources(wrapped), sources(endsAlone), sources(onlyFarApart));
        list.test("destinations, the first number far above", probe ->
                holdNothing(probe, false, List.of(range(31, 0), range(31, 1), range(20, 4))),
            destinations(swapped), destinations(wrapped), destinations(endsAlone));
        list.test("destinations, the first number one above", probe ->
                holdNothing(probe, false, List.of(range(1, 0), range(16, 15), range(31, 30))),
            destinations(swapped), destinations(wrapped), destinations(endsAlone),
            destinations(onlyFarApart));
        list.test("both", probe -> {
            Tried tried = oneRule(probe, range(31, 0), range(31, 0), ALL);
            tried.due(0).decided(0);
            tried.due(-1).decide(0, 0, 0);
            tried.due(-1).decide(31, 31, 3);
        }, Faults.takes("insert", (a, table) -> {
            a[1] = a[1] == 992 ? EVERY : a[1];
            a[2] = a[2] == 992 ? EVERY : a[2];
        }));
    }

    private static void holdNothing(Probe probe, boolean inSources, List<Integer> ranges) {
        for (int range : ranges) {
            Tried tried = oneRule(probe, inSources ? range : EVERY,
                inSources ? EVERY : range, ALL);
            for (int value = 0; value < 32; value++) {
                tried.due(-1).decide(inSources ? value : 9, inSources ? 9 : value, 1);
            }
            tried.due(0).decided(0);
            tried.due(-1).witness(0);
            tried.due(1).use(0);
            tried.due(4096).decided(-1);
        }
    }

    private static void deciding(Boundaries list) {
        list.says("A packet's DECIDING rule is the first rule in the order that matches it");
        list.test("the first of twelve that all match", probe -> {
            Tried tried = probe.fresh();
            for (int count = 1; count <= 12; count++) {
                tried.due(count).insert(count - 1, EVERY, EVERY, kind(count % 4, ALL));
            }
            tried.due(0).decide(0, 0, 0);
            tried.due(0).decide(31, 31, 3);
            tried.due(1).action(31, 31, 3);
            tried.due(4096).decided(0);
            tried.due(0).decided(1);
            tried.due(0).decided(11);
        }, Faults.answers("decide", (a, right, table) -> table.size() - 1));
        list.test("the last of twelve, if it alone matches", probe -> {
            Tried tried = probe.stripes(11);
            tried.due(12).insert(11, range(30, 30), EVERY, kind(3, ALL));
            tried.due(11).decide(30, 0, 0);
            tried.due(3).action(30, 0, 0);
        }, Faults.answers("decide", (a, right, table) -> right == 11 ? -1 : right),
            Faults.answers("action", (a, right, table) -> a[0] == 30 ? 2 : right));

        list.says("the packet's action is that of its deciding rule, "
            + "or the DEFAULT action if no rule matches it");
        list.test("without a rule", probe -> {
            Tried tried = probe.fresh();
            tried.due(0).otherwise(3);
            tried.due(3).action(0, 0, 0);
            tried.due(4096).having(3);
        }, Faults.answers("action", (a, right, table) -> table.size() == 0 ? 0 : right));
        list.test("with rules that hold nothing", probe -> {
            Tried tried = oneRule(probe, range(1, 0), EVERY, ALL);
            tried.due(2).insert(1, EVERY, EVERY, kind(1, 0));
            tried.due(0).otherwise(3);
            tried.due(3).action(0, 0, 0);
            tried.due(4096).having(3);
        }, Faults.answers("action", (a, right, table) -> table.size() > 0 ? 1 : right));
        list.test("with twelve rules, none of which matches", probe -> {
            Tried tried = probe.stripes(12);
            tried.due(2).action(12, 0, 0);
            tried.due(2).otherwise(1);
            tried.due(1).action(12, 0, 0);
        }, Faults.answers("action", (a, right, table) -> table.decide(a[0], a[1], a[2]) < 0
            ? 2 : right));
    }

    private static void dead(Boundaries list) {
        list.says("A rule is DEAD if it decides no packet");
        list.test("a rule that matches none", probe -> {
            oneRule(probe, range(1, 0), EVERY, ALL).due(1).use(0);
            oneRule(probe, EVERY, range(1, 0), ALL).due(1).use(0);
            oneRule(probe, EVERY, EVERY, 0).due(1).use(0);
        }, Faults.answers("use", (a, right, table) -> right == 1 ? 2 : right));
        list.test("a rule whose packets are all decided before", probe -> {
            Tried tried = oneRule(probe, range(0, 15), EVERY, ALL);
            tried.due(2).insert(1, range(16, 31), EVERY, kind(2, ALL));
            tried.due(3).insert(2, range(15, 16), EVERY, kind(3, ALL));
            tried.due(1).use(2);
        }, Faults.answers("use", (a, right, table) -> a[0] > 1 && right == 1 ? 0 : right));
        list.test("not a rule to which one packet is left, the first", probe -> {
            Tried tried = matchingAll(probe);
            tried.due(2).insert(0, EVERY, EVERY, kind(2, 14));
            tried.due(3).insert(0, EVERY, range(1, 31), kind(2, ALL));
            tried.due(4).insert(0, range(1, 31), EVERY, kind(2, ALL));
            tried.due(1).decided(3);
            tried.due(0).use(3);
        }, deadWithOne());
        list.test("not a rule to which one packet is left, the last", probe -> {
            Tried tried = matchingAll(probe);
            tried.due(2).insert(0, EVERY, EVERY, kind(2, 7));
            tried.due(3).insert(0, EVERY, range(0, 30), kind(2, ALL));
            tried.due(4).insert(0, range(0, 30), EVERY, kind(2, ALL));
            tried.due(1).decided(3);
            tried.due(0).use(3);
        }, deadWithOne());
    }

    private static Supplier<Table> deadWithOne() {
        return Faults.answers("use", (a, right, table) -> table.decided(a[0]) == 1 ? 1 : right);
    }

    private static void idle(Boundaries list) {
        list.says("A rule is IDLE if leaving it out would change no packet's action");
        list.test("the only rule, of the default action", probe -> {
            Tried tried = matchingAll(probe);
            tried.due(0).use(0);
            tried.due(0).otherwise(1);
            tried.due(2).use(0);
        }, Faults.answers("use", (a, right, table) -> table.size() == 1 ? 0 : right));
        list.test("the last rule, of the default action", probe -> {
            Tried tried = oneRule(probe, range(0, 15), EVERY, ALL);
            tried.due(2).insert(1, EVERY, EVERY, kind(0, ALL));
            tried.due(2).use(1);
            tried.due(0).otherwise(1);
            tried.due(0).use(1);
        }, Faults.answers("use", (a, right, table) -> a[0] == table.size() - 1 ? 0 : right));
        list.test("the first of twelve, which the eleven behind it make up for", probe -> {
            Tried tried = oneRule(probe, range(0, 10), EVERY, ALL);
            for (int source = 0; source < 11; source++) {
                tried.due(source + 2).insert(source + 1, range(source, source), EVERY,
                    kind(1, ALL));
            }
            tried.due(2).use(0);
            tried.due(11).remove(11);
            tried.due(0).use(0);
        }, Faults.answers("use", (a, right, table) -> right == 2 ? 0 : right),
            idleBy(packet -> packet < 128 * 10));
        list.test("not if the first packet's action alone would change", probe -> {
            Tried tried = matchingAll(probe);
            tried.due(2).insert(1, 0, 0, kind(2, 1));
            tried.due(0).otherwise(1);
            tried.due(0).use(0);
            tried.due(1).remove(1);
            tried.due(2).use(0);
        }, idleBy(packet -> packet != 0));
        list.test("not if the last packet's action alone would change", probe -> {
            Tried tried = matchingAll(probe);
            tried.due(2).insert(1, 1023, 1023, kind(2, 8));
            tried.due(0).otherwise(1);
            tried.due(0).use(0);
            tried.due(1).remove(1);
            tried.due(2).use(0);
        }, idleBy(packet -> packet != 4095), idleBy(packet -> packet == 0));
        list.test("though a rule of another action stands behind its like", probe -> {
            Tried tried = matchingAll(probe);
            tried.due(2).insert(1, EVERY, EVERY, kind(1, ALL));
            tried.due(3).insert(2, EVERY, EVERY, kind(2, ALL));
            tried.due(2).use(0);
            tried.due(0).shift(2, 1);
            tried.due(0).use(0);
        }, Faults.answers("use", (a, right, table) -> right == 2 ? 0 : right),
            idleBy(packet -> false));
    }

    private interface Look {
        boolean at(int packet);
    }

    /** use judges whether a rule is idle by these packets alone. */
    private static Supplier<Table> idleBy(Look look) {
        return Faults.answers("use", (a, right, table) -> {
            if (right == -2 || right == 1) {
                return right;
            }
            boolean same = table.packetsDecided(a[0]).stream()
                .filter(packet -> look.at(packet))
                .allMatch(packet -> table.actionWithout(a[0], packet) == table.actionOf(packet));
            return same ? 2 : 0;
        });
    }
}
