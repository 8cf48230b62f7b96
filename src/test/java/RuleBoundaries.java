import java.util.function.Supplier;

/** The boundary cases that promises 1 to 5 name: a new object, and the calls that change one. */
final class RuleBoundaries {
    private static final int EVERY = Tried.EVERY;
    private static final int ALL = Tried.ALL;
    private static final int LEAST = Tried.LEAST;
    private static final int MOST = Tried.MOST;

    private RuleBoundaries() {
    }

    static void addTo(Boundaries list) {
        list.section("Promise 1");
        newObject(list);
        list.section("Promise 2");
        insertedPlace(list);
        insertedNumbers(list);
        insertRefusesPlaces(list);
        insertRefusesWhenFull(list);
        insertRefusesRanges(list);
        insertRefusesKinds(list);
        insertCounts(list);
        list.section("Promise 3");
        removes(list);
        removeRefuses(list);
        list.section("Promise 4");
        shifts(list);
        shiftRefuses(list);
        list.section("Promise 5");
        otherwise(list);
    }

    private static int range(int first, int last) {
        return Tried.range(first, last);
    }

    private static int kind(int action, int sorts) {
        return Tried.kind(action, sorts);
    }

    // Promise 1

    private static void newObject(Boundaries list) {
        list.says("No rule");
        list.test("none to take out", probe -> probe.fresh().due(-1).remove(0),
            Faults.begins(table -> table.insert(0, 0, 0, 0)));
        list.test("none to shift", probe -> probe.fresh().due(-1).shift(0, 0),
            Faults.begins(table -> table.insert(0, 0, 0, 0)));
        list.test("none with a use", probe -> probe.fresh().due(-2).use(0),
            Faults.begins(table -> table.insert(0, 0, 0, 0)));
        list.test("none with a place", probe -> {
            probe.fresh().due(-2).decided(0);
            probe.fresh().due(-2).witness(0);
        }, Faults.begins(table -> table.insert(0, 0, 0, 0)));
        list.test("none that matches", probe -> {
            Tried tried = probe.fresh();
            tried.due(-1).decide(0, 0, 0);
            tried.due(-1).decide(31, 31, 3);
            tried.due(4096).decided(-1);
            tried.due(0).witness(-1);
        }, Faults.begins(table -> table.insert(0, 0, 0, 1)),
            Faults.begins(table -> table.insert(0, 1023, 1023, 8)));
        list.test("the first one put in is the only one", probe -> {
            Tried tried = probe.fresh();
            tried.due(-1).insert(1, EVERY, EVERY, ALL);
            tried.due(1).insert(0, EVERY, EVERY, ALL);
        }, Faults.begins(table -> table.insert(0, 0, 0, 0)));
        list.test("none from an object made before", probe -> {
            probe.fresh().due(1).insert(0, EVERY, EVERY, ALL);
            probe.fresh().due(4096).decided(-1);
            probe.fresh().due(1).insert(0, EVERY, EVERY, ALL);
        }, oneForAll());

        list.says("the default action is 0");
        list.test("by the first answer of otherwise",
            probe -> probe.fresh().due(0).otherwise(1),
            Faults.begins(table -> table.otherwise(1)));
        list.test("by the action of a packet", probe -> {
            probe.fresh().due(0).action(0, 0, 0);
            probe.fresh().due(0).action(31, 31, 3);
        }, Faults.begins(table -> table.otherwise(3)));
        list.test("by the counts", probe -> {
            Tried tried = probe.fresh();
            tried.due(4096).having(0);
            tried.due(0).having(1);
            tried.due(0).having(2);
            tried.due(0).having(3);
        }, Faults.begins(table -> table.otherwise(2)));
        list.test("whatever an object made before has", probe -> {
            probe.fresh().due(0).otherwise(3);
            probe.fresh().due(0).otherwise(3);
        }, oneForAll());
    }

    /** Every new object is the same one. */
    private static Supplier<Table> oneForAll() {
        Reference one = new Reference();
        return () -> one;
    }

    // Promise 2

    private static void insertedPlace(Boundaries list) {
        list.says("Puts a rule in at the place; the rules from that place on move one place on");
        list.test("as the first of none", probe -> {
            Tried tried = probe.stripes(0);
            tried.putStripe(0, 7, 1);
            tried.holdsStripes(7);
        }, Faults.answers("insert", (a, right, table) -> table.size() == 1 ? -1 : right));
        list.test("at the least place, 0", probe -> {
            Tried tried = probe.stripes(3);
            tried.putStripe(0, 7, 4);
            tried.holdsStripes(7, 0, 1, 2);
        }, Faults.takes("insert", (a, table) -> a[0] = table.size()),
            Faults.takes("insert", (a, table) -> a[0] = Math.min(a[0] + 1, table.size())));
        list.test("at the greatest place, the number of rules", probe -> {
            Tried tried = probe.stripes(3);
            tried.putStripe(3, 7, 4);
            tried.holdsStripes(0, 1, 2, 7);
        }, Faults.takes("insert", (a, table) -> a[0] = 0),
            Faults.takes("insert", (a, table) -> a[0] = Math.max(0,
                Math.min(a[0], table.size() - 1))));
        list.test("at the place before that, that of the last rule", probe -> {
            Tried tried = probe.stripes(3);
            tried.putStripe(2, 7, 4);
            tried.holdsStripes(0, 1, 7, 2);
        }, Faults.takes("insert", (a, table) -> a[0] = Math.min(a[0] + 1, table.size())));
        list.test("as the twelfth, at the least place", probe -> {
            Tried tried = probe.stripes(11);
            tried.putStripe(0, 20, 12);
            tried.holdsStripes(20, 0, 1, 2, 3, 4, 5, 6, 7, 8, 9, 10);
        }, Faults.takes("insert", (a, table) -> a[0] = Math.max(a[0], table.size() - 9)));
        list.test("as the twelfth, at the greatest place", probe -> {
            Tried tried = probe.stripes(11);
            tried.putStripe(11, 20, 12);
            tried.holdsStripes(0, 1, 2, 3, 4, 5, 6, 7, 8, 9, 10, 20);
        }, Faults.takes("insert", (a, table) -> a[0] = Math.min(a[0], 10)));
        list.test("as the twelfth, in the middle", probe -> {
            Tried tried = probe.stripes(11);
            tried.putStripe(5, 20, 12);
            tried.holdsStripes(0, 1, 2, 3, 4, 20, 5, 6, 7, 8, 9, 10);
        }, Faults.takes("insert", (a, table) -> a[0] = table.size()));
    }

    private static void insertedNumbers(Boundaries list) {
        list.says("sources: 32 * s1 + s2");
        list.test("the least number, 0: from 0 to 0",
            probe -> reads(probe, 0, EVERY, kind(1, ALL), 128, 0),
            Faults.takes("insert", (a, table) -> a[1] = a[1] == 0 ? EVERY : a[1]));
        list.test("31: from 0 to 31",
            probe -> reads(probe, 31, EVERY, kind(1, ALL), 4096, 0),
            Faults.takes("insert", (a, table) -> a[1] = a[1] % 31),
            Faults.takes("insert", (a, table) -> a[1] = turned(a[1])));
        list.test("32: from 1 to 0",
            probe -> reads(probe, 32, EVERY, kind(1, ALL), 0, -1),
            Faults.takes("insert", (a, table) -> a[1] = turned(a[1])));
        list.test("33: from 1 to 1",
            probe -> reads(probe, 33, EVERY, kind(1, ALL), 128, 128),
            Faults.takes("insert", (a, table) -> a[1] = a[1] == 33 ? 34 : a[1]));
        list.test("992: from 31 to 0",
            probe -> reads(probe, 992, EVERY, kind(1, ALL), 0, -1),
            Faults.takes("insert", (a, table) -> a[1] = turned(a[1])));
        list.test("the greatest number, 1023: from 31 to 31",
            probe -> reads(probe, 1023, EVERY, kind(1, ALL), 128, 128 * 31),
            Faults.takes("insert", (a, table) -> a[1] = Math.min(a[1], 1022)));

        list.says("destinations: 32 * d1 + d2");
        list.test("the least number, 0: from 0 to 0",
            probe -> reads(probe, EVERY, 0, kind(1, ALL), 128, 0),
            Faults.takes("insert", (a, table) -> a[2] = a[2] == 0 ? EVERY : a[2]));
        list.test("31: from 0 to 31",
            probe -> reads(probe, EVERY, 31, kind(1, ALL), 4096, 0),
            Faults.takes("insert", (a, table) -> a[2] = a[2] % 31),
            Faults.takes("insert", (a, table) -> a[2] = turned(a[2])));
        list.test("32: from 1 to 0",
            probe -> reads(probe, EVERY, 32, kind(1, ALL), 0, -1),
            Faults.takes("insert", (a, table) -> a[2] = turned(a[2])));
        list.test("33: from 1 to 1",
            probe -> reads(probe, EVERY, 33, kind(1, ALL), 128, 4),
            Faults.takes("insert", (a, table) -> a[2] = a[2] == 33 ? 34 : a[2]));
        list.test("992: from 31 to 0",
            probe -> reads(probe, EVERY, 992, kind(1, ALL), 0, -1),
            Faults.takes("insert", (a, table) -> a[2] = turned(a[2])));
        list.test("the greatest number, 1023: from 31 to 31",
            probe -> reads(probe, EVERY, 1023, kind(1, ALL), 128, 4 * 31),
            Faults.takes("insert", (a, table) -> a[2] = Math.min(a[2], 1022)));

        list.says("kind: 16 * action + the sum of 2^t over the sorts t of the set");
        list.test("the least number, 0: action 0, no sort",
            probe -> reads(probe, EVERY, EVERY, 0, 0, -1),
            Faults.takes("insert", (a, table) -> a[3] = a[3] == 0 ? ALL : a[3]));
        list.test("1: action 0, sort 0",
            probe -> reads(probe, EVERY, EVERY, 1, 1024, 0),
            Faults.takes("insert", (a, table) -> a[3] = a[3] == 1 ? 2 : a[3]));
        list.test("8: action 0, sort 3",
            probe -> reads(probe, EVERY, EVERY, 8, 1024, 3),
            Faults.takes("insert", (a, table) -> a[3] = a[3] == 8 ? 1 : a[3]));
        list.test("15: action 0, all sorts", probe -> {
            reads(probe, EVERY, EVERY, 15, 4096, 0);
            acts(probe, 15, 0);
        }, Faults.takes("insert", (a, table) -> a[3] = Math.min(a[3], 14)),
            Faults.takes("insert", (a, table) -> a[3] = a[3] == 15 ? 31 : a[3]));
        list.test("16: action 1, no sort",
            probe -> reads(probe, EVERY, EVERY, 16, 0, -1),
            Faults.takes("insert", (a, table) -> a[3] = a[3] % 4 * 16 + a[3] / 4),
            Faults.takes("insert", (a, table) -> a[3] = Math.min(a[3], 15)));
        list.test("31: action 1, all sorts", probe -> {
            reads(probe, EVERY, EVERY, 31, 4096, 0);
            acts(probe, 31, 1);
        }, Faults.takes("insert", (a, table) -> a[3] = a[3] == 31 ? 15 : a[3]));
        list.test("48: action 3, no sort",
            probe -> reads(probe, EVERY, EVERY, 48, 0, -1),
            Faults.takes("insert", (a, table) -> a[3] = a[3] == 48 ? 47 : a[3]));
        list.test("the greatest number, 63: action 3, all sorts", probe -> {
            reads(probe, EVERY, EVERY, 63, 4096, 0);
            acts(probe, 63, 3);
        }, Faults.takes("insert", (a, table) -> a[3] = Math.min(a[3], 62)),
            Faults.takes("insert", (a, table) -> a[3] = Math.min(a[3], 47)));
    }

    /** The range read with its two numbers changed over. */
    private static int turned(int range) {
        return 32 * (range % 32) + range / 32;
    }

    /** A rule of these numbers, the only one, decides so many packets with this least one. */
    private static void reads(Probe probe, int sources, int destinations, int kind,
                              int count, int least) {
        Tried tried = probe.fresh();
        tried.due(1).insert(0, sources, destinations, kind);
        tried.due(count).decided(0);
        tried.due(4096 - count).decided(-1);
        tried.due(least).witness(0);
    }

    private static void acts(Probe probe, int kind, int action) {
        Tried tried = probe.fresh();
        tried.due(0).otherwise(2);
        tried.due(1).insert(0, EVERY, EVERY, kind);
        tried.due(action).action(9, 9, 1);
        tried.due(4096).having(action);
    }

    /** The call is refused, and the stripes are as they were. */
    private static void refusesInsert(Probe probe, int rules, int place, int sources,
                                      int destinations, int kind) {
        Tried tried = probe.stripes(rules);
        tried.due(-1).insert(place, sources, destinations, kind);
        tried.holdsFirstStripes(rules);
    }

    private static void insertRefusesPlaces(Boundaries list) {
        list.says("Answers -1 and changes nothing if place is not from 0 to the number of rules");
        list.test("place too small, -1, without a rule",
            probe -> refusesInsert(probe, 0, -1, EVERY, EVERY, ALL),
            Faults.takes("insert", (a, table) -> a[0] = Math.max(a[0], 0)));
        list.test("place too small, -1, with rules",
            probe -> refusesInsert(probe, 3, -1, EVERY, EVERY, ALL),
            Faults.takes("insert", (a, table) -> a[0] = Math.max(a[0], 0)),
            Faults.takes("insert", (a, table) -> a[0] = a[0] == -1 ? table.size() : a[0]),
            Faults.changesThough("insert", table -> table.insert(0, EVERY, EVERY, ALL)),
            Faults.changesThough("insert", table -> table.remove(0)),
            Faults.changesThough("insert", table -> table.otherwise(0)));
        list.test("place too small, the least number",
            probe -> refusesInsert(probe, 3, LEAST, EVERY, EVERY, ALL),
            Faults.takes("insert", (a, table) -> a[0] = a[0] == LEAST ? 0 : a[0]),
            Faults.takes("insert", (a, table) -> a[0] = a[0] & 15));
        list.test("place too large, 1, without a rule",
            probe -> refusesInsert(probe, 0, 1, EVERY, EVERY, ALL),
            Faults.takes("insert", (a, table) -> a[0] = Math.min(a[0], table.size())),
            Faults.changesThough("insert", table -> table.insert(0, 0, 0, 0)));
        list.test("place too large, one above the number of rules",
            probe -> refusesInsert(probe, 3, 4, EVERY, EVERY, ALL),
            Faults.takes("insert", (a, table) -> a[0] = Math.min(a[0], table.size())),
            Faults.changesThough("insert", table -> table.insert(3, EVERY, EVERY, ALL)),
            Faults.changesThough("insert", table -> table.insert(3, 0, 0, 0)));
        list.test("place too large, 12, with eleven rules",
            probe -> refusesInsert(probe, 11, 12, EVERY, EVERY, ALL),
            Faults.takes("insert", (a, table) -> a[0] = Math.min(a[0], table.size())));
        list.test("place too large, the greatest number",
            probe -> refusesInsert(probe, 3, MOST, EVERY, EVERY, ALL),
            Faults.takes("insert", (a, table) -> a[0] = a[0] == MOST ? 0 : a[0]),
            // What comes of comparing place + 1 with the number of rules.
            Faults.takes("insert", (a, table) -> a[0] = a[0] + 1 <= table.size() && a[0] > 0
                ? Math.min(a[0], table.size()) : a[0]));
    }

    private static void insertRefusesWhenFull(Boundaries list) {
        Supplier<Table> dropsTheLast = Faults.takes("insert", (a, table) -> {
            if (table.size() == 12) {
                table.remove(11);
            }
        });
        list.says("Answers -1 and changes nothing if .. there are 12");
        list.test("at the least place",
            probe -> refusesInsert(probe, 12, 0, range(20, 20), EVERY, ALL), dropsTheLast,
            Faults.changesThough("insert", table -> table.remove(11)),
            Faults.changesThough("insert", table -> table.shift(0, 1)));
        list.test("in the middle",
            probe -> refusesInsert(probe, 12, 6, range(20, 20), EVERY, ALL), dropsTheLast);
        list.test("at the place of the last rule",
            probe -> refusesInsert(probe, 12, 11, range(20, 20), EVERY, ALL), dropsTheLast);
        list.test("at the number of rules",
            probe -> refusesInsert(probe, 12, 12, range(20, 20), EVERY, ALL),
            Faults.takes("insert", (a, table) -> {
                if (table.size() == 12) {
                    table.remove(11);
                    a[0] = Math.min(a[0], 11);
                }
            }));
        list.test("a rule that holds nothing, too",
            probe -> refusesInsert(probe, 12, 12, 32, 32, 0),
            Faults.answers("insert", (a, right, table) -> table.size() == 12 ? 12 : right));
        list.test("not any more when one has been taken out", probe -> {
            Tried tried = probe.stripes(12);
            tried.due(-1).insert(0, range(20, 20), EVERY, ALL);
            tried.due(11).remove(4);
            tried.putStripe(0, 20, 12);
            tried.holdsStripes(20, 0, 1, 2, 3, 5, 6, 7, 8, 9, 10, 11);
        }, fullOnceFull());
    }

    /** Nothing goes in any more once there have been twelve. */
    private static Supplier<Table> fullOnceFull() {
        return () -> new Reference() {
            private boolean wasFull = false;

            @Override
            public int insert(int place, int sources, int destinations, int kind) {
                int answer = wasFull ? -1 : super.insert(place, sources, destinations, kind);
                wasFull |= answer == 12;
                return answer;
            }
        };
    }

    private static void insertRefusesRanges(Boundaries list) {
        list.says("Answers -1 and changes nothing if .. sources or destinations "
            + "is not from 0 to 1023");
        list.test("sources too small, -1",
            probe -> refusesInsert(probe, 3, 0, -1, EVERY, ALL),
            Faults.takes("insert", (a, table) -> a[1] = Math.max(a[1], 0)),
            Faults.changesThough("insert", table -> table.insert(0, 0, EVERY, ALL)));
        list.test("sources too small, far below", probe -> {
            refusesInsert(probe, 3, 0, -993, EVERY, ALL);
            refusesInsert(probe, 3, 0, -1024, EVERY, ALL);
            refusesInsert(probe, 3, 0, LEAST, EVERY, ALL);
        }, Faults.takes("insert", (a, table) -> a[1] = a[1] < -1 ? a[1] & 1023 : a[1]),
            Faults.takes("insert", (a, table) -> a[1] = a[1] == LEAST ? 0 : a[1]));
        list.test("sources too large, 1024",
            probe -> refusesInsert(probe, 3, 0, 1024, EVERY, ALL),
            Faults.takes("insert", (a, table) -> a[1] = a[1] == 1024 ? 0 : a[1]),
            Faults.changesThough("insert", table -> table.insert(0, 1023, EVERY, ALL)));
        list.test("sources too large, far above", probe -> {
            refusesInsert(probe, 3, 0, 1024 + 31, EVERY, ALL);
            refusesInsert(probe, 3, 0, MOST, EVERY, ALL);
        }, Faults.takes("insert", (a, table) -> a[1] = a[1] > 1024 ? a[1] & 1023 : a[1]),
            Faults.takes("insert", (a, table) -> a[1] = a[1] == MOST ? 1023 : a[1]));
        list.test("destinations too small, -1",
            probe -> refusesInsert(probe, 3, 0, EVERY, -1, ALL),
            Faults.takes("insert", (a, table) -> a[2] = Math.max(a[2], 0)),
            Faults.changesThough("insert", table -> table.insert(0, EVERY, 0, ALL)));
        list.test("destinations too small, far below", probe -> {
            refusesInsert(probe, 3, 0, EVERY, -993, ALL);
            refusesInsert(probe, 3, 0, EVERY, -1024, ALL);
            refusesInsert(probe, 3, 0, EVERY, LEAST, ALL);
        }, Faults.takes("insert", (a, table) -> a[2] = a[2] < -1 ? a[2] & 1023 : a[2]),
            Faults.takes("insert", (a, table) -> a[2] = a[2] == LEAST ? 0 : a[2]));
        list.test("destinations too large, 1024",
            probe -> refusesInsert(probe, 3, 0, EVERY, 1024, ALL),
            Faults.takes("insert", (a, table) -> a[2] = a[2] == 1024 ? 0 : a[2]),
            Faults.changesThough("insert", table -> table.insert(0, EVERY, 1023, ALL)));
        list.test("destinations too large, far above", probe -> {
            refusesInsert(probe, 3, 0, EVERY, 1024 + 31, ALL);
            refusesInsert(probe, 3, 0, EVERY, MOST, ALL);
        }, Faults.takes("insert", (a, table) -> a[2] = a[2] > 1024 ? a[2] & 1023 : a[2]),
            Faults.takes("insert", (a, table) -> a[2] = a[2] == MOST ? 1023 : a[2]));
        list.test("not for a range that holds nothing", probe -> {
            Tried tried = probe.fresh();
            tried.due(1).insert(0, range(31, 0), EVERY, ALL);
            tried.due(2).insert(0, EVERY, range(31, 0), ALL);
            tried.due(3).insert(0, range(1, 0), range(1, 0), ALL);
        }, Faults.takes("insert", (a, table) -> a[1] = a[1] / 32 > a[1] % 32 ? -1 : a[1]),
            Faults.takes("insert", (a, table) -> a[2] = a[2] / 32 > a[2] % 32 ? -1 : a[2]));
    }

    private static void insertRefusesKinds(Boundaries list) {
        list.says("Answers -1 and changes nothing if .. kind is not from 0 to 63");
        list.test("kind too small, -1",
            probe -> refusesInsert(probe, 3, 0, EVERY, EVERY, -1),
            Faults.takes("insert", (a, table) -> a[3] = Math.max(a[3], 0)),
            Faults.changesThough("insert", table -> table.insert(0, EVERY, EVERY, 63)));
        list.test("kind too small, far below", probe -> {
            refusesInsert(probe, 3, 0, EVERY, EVERY, -49);
            refusesInsert(probe, 3, 0, EVERY, EVERY, -64);
            refusesInsert(probe, 3, 0, EVERY, EVERY, LEAST);
        }, Faults.takes("insert", (a, table) -> a[3] = a[3] < -1 ? a[3] & 63 : a[3]),
            Faults.takes("insert", (a, table) -> a[3] = a[3] == LEAST ? 0 : a[3]));
        list.test("kind too large, 64",
            probe -> refusesInsert(probe, 3, 0, EVERY, EVERY, 64),
            Faults.takes("insert", (a, table) -> a[3] = a[3] == 64 ? 0 : a[3]),
            Faults.changesThough("insert", table -> table.insert(0, EVERY, EVERY, 0)));
        list.test("kind too large, far above", probe -> {
            refusesInsert(probe, 3, 0, EVERY, EVERY, 64 + 15);
            refusesInsert(probe, 3, 0, EVERY, EVERY, MOST);
        }, Faults.takes("insert", (a, table) -> a[3] = a[3] > 64 ? a[3] & 63 : a[3]),
            Faults.takes("insert", (a, table) -> a[3] = a[3] == MOST ? 63 : a[3]));
        list.test("not for a set of no sort", probe -> {
            Tried tried = probe.fresh();
            tried.due(1).insert(0, EVERY, EVERY, 0);
            tried.due(2).insert(0, EVERY, EVERY, 48);
        }, Faults.takes("insert", (a, table) -> a[3] = a[3] % 16 == 0 ? -1 : a[3]));
    }

    private static void insertCounts(Boundaries list) {
        list.says("else the number of rules then");
        list.test("1 for the first, 12 for the twelfth", probe -> {
            Tried tried = probe.fresh();
            for (int count = 1; count <= 12; count++) {
                tried.due(count).insert(0, EVERY, EVERY, ALL);
            }
        }, Faults.answers("insert", (a, right, table) -> right - 1),
            Faults.answers("insert", (a, right, table) -> a[0] + 1),
            Faults.answers("insert", (a, right, table) -> right == 12 ? 0 : right));
        list.test("1 again when all have been taken out", probe -> {
            Tried tried = probe.stripes(2);
            tried.due(1).remove(0);
            tried.due(0).remove(0);
            tried.due(1).insert(0, EVERY, EVERY, ALL);
        }, countsAllEverPutIn());
    }

    private static Supplier<Table> countsAllEverPutIn() {
        return () -> new Reference() {
            private int putIn = 0;

            @Override
            public int insert(int place, int sources, int destinations, int kind) {
                int answer = super.insert(place, sources, destinations, kind);
                return answer == -1 ? -1 : ++putIn;
            }
        };
    }

    // Promise 3

    private static void removes(Boundaries list) {
        list.says("Takes the rule at the place out; the rules behind it move one place back");
        list.test("the first one", probe -> {
            Tried tried = probe.stripes(4);
            tried.due(3).remove(0);
            tried.holdsStripes(1, 2, 3);
        }, Faults.takes("remove", (a, table) -> a[0] = table.size() - 1),
            fillsTheGapWithTheLast());
        list.test("the last one", probe -> {
            Tried tried = probe.stripes(4);
            tried.due(3).remove(3);
            tried.holdsStripes(0, 1, 2);
        }, Faults.takes("remove", (a, table) -> a[0] = 0),
            Faults.takes("remove", (a, table) -> a[0]--));
        list.test("the only one", probe -> {
            Tried tried = probe.stripes(1);
            tried.due(0).remove(0);
            tried.holdsStripes();
        }, Faults.takes("remove", (a, table) -> a[0] = table.size() == 1 ? -1 : a[0]));
        list.test("the first of twelve", probe -> {
            Tried tried = probe.stripes(12);
            tried.due(11).remove(0);
            tried.holdsStripes(1, 2, 3, 4, 5, 6, 7, 8, 9, 10, 11);
        }, fillsTheGapWithTheLast());
        list.test("the last of twelve", probe -> {
            Tried tried = probe.stripes(12);
            tried.due(11).remove(11);
            tried.holdsFirstStripes(11);
        }, Faults.takes("remove", (a, table) -> a[0] = Math.min(a[0], 10)));

        list.says("Answers the number of rules then");
        list.test("11 with the first of twelve out, 0 with the last one out", probe -> {
            Tried tried = probe.stripes(12);
            for (int count = 11; count >= 0; count--) {
                tried.due(count).remove(0);
            }
        }, Faults.answers("remove", (a, right, table) -> right + 1),
            Faults.answers("remove", (a, right, table) -> right == 0 ? -1 : right));
    }

    private static Supplier<Table> fillsTheGapWithTheLast() {
        return () -> new Reference() {
            @Override
            public int remove(int place) {
                int answer = super.remove(place);
                if (answer > 0 && place < answer) {
                    shift(answer - 1, place);
                }
                return answer;
            }
        };
    }

    private static void refusesRemove(Probe probe, int rules, int place) {
        Tried tried = probe.stripes(rules);
        tried.due(-1).remove(place);
        tried.holdsFirstStripes(rules);
    }

    private static void removeRefuses(Boundaries list) {
        list.says("-1, and changes nothing, if there is none");
        list.test("no rule at all", probe -> {
            refusesRemove(probe, 0, 0);
            refusesRemove(probe, 0, -1);
        }, Faults.answers("remove", (a, right, table) -> table.size() == 0 ? 0 : right),
            Faults.changesThough("remove", table -> table.insert(0, 0, 0, 0)));
        list.test("no rule any more", probe -> {
            Tried tried = probe.stripes(1);
            tried.due(0).remove(0);
            tried.due(-1).remove(0);
            tried.holdsStripes();
        }, Faults.answers("remove", (a, right, table) -> Math.max(right, 0)));
        list.test("place too small, -1", probe -> refusesRemove(probe, 3, -1),
            Faults.takes("remove", (a, table) -> a[0] = Math.max(a[0], 0)),
            Faults.takes("remove", (a, table) -> a[0] = a[0] < 0 ? table.size() - 1 : a[0]),
            Faults.changesThough("remove", table -> table.remove(0)),
            Faults.changesThough("remove", table -> table.otherwise(0)),
            Faults.answers("remove", (a, right, table) -> right == -1 ? -2 : right));
        list.test("place too small, the least number", probe -> refusesRemove(probe, 3, LEAST),
            Faults.takes("remove", (a, table) -> a[0] = a[0] & 15));
        list.test("place too large, the number of rules", probe -> refusesRemove(probe, 3, 3),
            Faults.takes("remove", (a, table) -> a[0] = Math.min(a[0], table.size() - 1)),
            Faults.changesThough("remove", table -> table.remove(table.size() - 1)));
        list.test("place too large, 12 with twelve rules", probe -> refusesRemove(probe, 12, 12),
            Faults.takes("remove", (a, table) -> a[0] = Math.min(a[0], 11)));
        list.test("place too large, the greatest number", probe -> refusesRemove(probe, 3, MOST),
            Faults.takes("remove", (a, table) -> a[0] = a[0] == MOST ? 0 : a[0]));
    }

    // Promise 4

    private static void shifts(Boundaries list) {
        list.says("The rule at the place goes to the other place (which it has afterwards); "
            + "the others keep their order. Answers 0");
        list.test("to its own place", probe -> {
            for (int place = 0; place < 3; place++) {
                Tried tried = probe.stripes(3);
                tried.due(0).shift(place, place);
                tried.holdsFirstStripes(3);
            }
        }, Faults.answers("shift", (a, right, table) -> a[0] == a[1] ? -1 : right));
        list.test("the only rule to its own place", probe -> {
            Tried tried = probe.stripes(1);
            tried.due(0).shift(0, 0);
            tried.holdsStripes(0);
        }, Faults.answers("shift", (a, right, table) -> table.size() == 1 ? -1 : right));
        list.test("from the first place to the last", probe -> {
            Tried tried = probe.stripes(4);
            tried.due(0).shift(0, 3);
            tried.holdsStripes(1, 2, 3, 0);
        }, Faults.takes("shift", (a, table) -> a[1] = a[0] < a[1] ? a[1] - 1 : a[1]),
            changesPlaces());
        list.test("from the last place to the first", probe -> {
            Tried tried = probe.stripes(4);
            tried.due(0).shift(3, 0);
            tried.holdsStripes(3, 0, 1, 2);
        }, Faults.takes("shift", (a, table) -> a[1] = a[0] > a[1] ? a[1] + 1 : a[1]),
            changesPlaces());
        list.test("to the next place", probe -> {
            Tried tried = probe.stripes(4);
            tried.due(0).shift(1, 2);
            tried.holdsStripes(0, 2, 1, 3);
        }, Faults.takes("shift", (a, table) -> a[1] = a[0] < a[1] ? a[1] - 1 : a[1]));
        list.test("to the place before", probe -> {
            Tried tried = probe.stripes(4);
            tried.due(0).shift(2, 1);
            tried.holdsStripes(0, 2, 1, 3);
        }, Faults.takes("shift", (a, table) -> a[1] = a[0] > a[1] ? a[1] + 1 : a[1]));
        list.test("from the first place of twelve to the last", probe -> {
            Tried tried = probe.stripes(12);
            tried.due(0).shift(0, 11);
            tried.holdsStripes(1, 2, 3, 4, 5, 6, 7, 8, 9, 10, 11, 0);
        }, Faults.takes("shift", (a, table) -> a[1] = Math.min(a[1], 10)), changesPlaces());
        list.test("from the last place of twelve to the first", probe -> {
            Tried tried = probe.stripes(12);
            tried.due(0).shift(11, 0);
            tried.holdsStripes(11, 0, 1, 2, 3, 4, 5, 6, 7, 8, 9, 10);
        }, Faults.takes("shift", (a, table) -> a[0] = Math.min(a[0], 10)), changesPlaces());
    }

    /** The two rules change places, in place of the others moving up. */
    private static Supplier<Table> changesPlaces() {
        return () -> new Reference() {
            @Override
            public int shift(int from, int to) {
                int answer = super.shift(from, to);
                if (answer == 0 && from != to) {
                    super.shift(to > from ? to - 1 : to + 1, from);
                }
                return answer;
            }
        };
    }

    private static void refusesShift(Probe probe, int rules, int from, int to) {
        Tried tried = probe.stripes(rules);
        tried.due(-1).shift(from, to);
        tried.holdsFirstStripes(rules);
    }

    private static void shiftRefuses(Boundaries list) {
        list.says("-1, and changes nothing, if one of the two is not the place of a rule");
        list.test("no rule at all", probe -> refusesShift(probe, 0, 0, 0),
            Faults.answers("shift", (a, right, table) -> table.size() == 0 ? 0 : right));
        list.test("from too small, -1", probe -> refusesShift(probe, 3, -1, 1),
            Faults.takes("shift", (a, table) -> a[0] = Math.max(a[0], 0)),
            Faults.changesThough("shift", table -> table.shift(0, 1)),
            Faults.changesThough("shift", table -> table.otherwise(0)));
        list.test("from too small, the least number", probe -> refusesShift(probe, 3, LEAST, 1),
            Faults.takes("shift", (a, table) -> a[0] = a[0] & 15));
        list.test("from too large, the number of rules", probe -> refusesShift(probe, 3, 3, 1),
            Faults.takes("shift", (a, table) -> a[0] = Math.min(a[0], table.size() - 1)),
            Faults.changesThough("shift", table -> table.shift(2, 1)));
        list.test("from too large, 12 with twelve rules",
            probe -> refusesShift(probe, 12, 12, 1),
            Faults.takes("shift", (a, table) -> a[0] = Math.min(a[0], 11)));
        list.test("from too large, the greatest number",
            probe -> refusesShift(probe, 3, MOST, 1),
            Faults.takes("shift", (a, table) -> a[0] = a[0] == MOST ? 2 : a[0]));
        list.test("to too small, -1", probe -> refusesShift(probe, 3, 1, -1),
            Faults.takes("shift", (a, table) -> a[1] = Math.max(a[1], 0)),
            Faults.changesThough("shift", table -> table.shift(1, 0)),
            Faults.changesThough("shift", table -> table.remove(1)));
        list.test("to too small, the least number", probe -> refusesShift(probe, 3, 1, LEAST),
            Faults.takes("shift", (a, table) -> a[1] = a[1] & 15));
        list.test("to too large, the number of rules", probe -> refusesShift(probe, 3, 1, 3),
            Faults.takes("shift", (a, table) -> a[1] = Math.min(a[1], table.size() - 1)),
            Faults.changesThough("shift", table -> table.shift(1, 2)),
            Faults.changesThough("shift", table -> table.remove(1)));
        list.test("to too large, 12 with twelve rules", probe -> refusesShift(probe, 12, 1, 12),
            Faults.takes("shift", (a, table) -> a[1] = Math.min(a[1], 11)));
        list.test("to too large, the greatest number", probe -> refusesShift(probe, 3, 1, MOST),
            Faults.takes("shift", (a, table) -> a[1] = a[1] == MOST ? 2 : a[1]));
        list.test("both, and the same", probe -> {
            refusesShift(probe, 3, -1, -1);
            refusesShift(probe, 3, 3, 3);
            refusesShift(probe, 3, LEAST, LEAST);
            refusesShift(probe, 3, MOST, MOST);
        }, Faults.answers("shift", (a, right, table) -> a[0] == a[1] ? 0 : right),
            Faults.answers("shift", (a, right, table) -> a[0] == 3 && a[1] == 3 ? 0 : right));
        list.test("both, one too small and one too large", probe -> {
            refusesShift(probe, 3, -1, 3);
            refusesShift(probe, 3, 3, -1);
        }, Faults.takes("shift", (a, table) -> {
            a[0] = Math.max(0, Math.min(a[0], table.size() - 1));
            a[1] = Math.max(0, Math.min(a[1], table.size() - 1));
        }));
    }

    // Promise 5

    private static void setsDefault(Probe probe, int given, int action) {
        Tried tried = probe.fresh();
        tried.due(0).otherwise((action + 1) % 4);
        tried.due((action + 1) % 4).otherwise(given);
        tried.due(action).action(9, 9, 1);
        tried.due(4096).having(action);
        tried.due(action).otherwise(0);
    }

    private static void otherwise(Boundaries list) {
        list.says("Sets the default action to action & 3");
        list.test("the least action, 0", probe -> setsDefault(probe, 0, 0),
            Faults.takes("otherwise", (a, table) -> a[0] = Math.max(a[0], 1)));
        list.test("the greatest action, 3", probe -> setsDefault(probe, 3, 3),
            Faults.takes("otherwise", (a, table) -> a[0] = Math.min(a[0], 2)));
        list.test("above: 4, 5, 6 and 7 wrap around to 0, 1, 2 and 3", probe -> {
            setsDefault(probe, 4, 0);
            setsDefault(probe, 5, 1);
            setsDefault(probe, 6, 2);
            setsDefault(probe, 7, 3);
        }, Faults.takes("otherwise", (a, table) -> a[0] = Math.min(a[0], 3)), keepsOutside());
        list.test("above: the greatest number wraps around to 3", probe -> {
            setsDefault(probe, MOST, 3);
            setsDefault(probe, MOST - 3, 0);
        }, Faults.takes("otherwise", (a, table) -> a[0] = a[0] > 7 ? 0 : a[0]), keepsOutside());
        list.test("below: -1, -2, -3 and -4 wrap around to 3, 2, 1 and 0", probe -> {
            setsDefault(probe, -1, 3);
            setsDefault(probe, -2, 2);
            setsDefault(probe, -3, 1);
            setsDefault(probe, -4, 0);
        }, Faults.takes("otherwise", (a, table) -> a[0] = Math.max(a[0], 0)),
            Faults.takes("otherwise", (a, table) -> a[0] = Math.abs(a[0])), keepsOutside());
        list.test("below: the least number wraps around to 0", probe -> {
            setsDefault(probe, LEAST, 0);
            setsDefault(probe, LEAST + 3, 3);
        }, Faults.takes("otherwise", (a, table) -> a[0] = a[0] < -4 ? 1 : a[0]), keepsOutside());

        list.says("Answers the one before");
        list.test("0 the first time", probe -> probe.fresh().due(0).otherwise(3),
            Faults.answers("otherwise", (a, right, table) -> a[0]));
        list.test("the same one when it is set again", probe -> {
            Tried tried = probe.fresh();
            tried.due(0).otherwise(3);
            tried.due(3).otherwise(3);
            tried.due(3).otherwise(3);
        }, Faults.answers("otherwise", (a, right, table) -> a[0] == right ? -1 : right));
        list.test("the action, not the number given before", probe -> {
            Tried tried = probe.fresh();
            tried.due(0).otherwise(6);
            tried.due(2).otherwise(-1);
            tried.due(3).otherwise(MOST);
            tried.due(3).otherwise(LEAST);
            tried.due(0).otherwise(0);
        }, answersTheNumberGiven());
    }

    /** A number outside of 0 to 3 leaves the default as it is. */
    private static Supplier<Table> keepsOutside() {
        return Faults.takes("otherwise", (a, table) -> {
            if (a[0] < 0 || a[0] > 3) {
                a[0] = table.otherwise(0);
                table.otherwise(a[0]);
            }
        });
    }

    private static Supplier<Table> answersTheNumberGiven() {
        return () -> new Reference() {
            private int given = 0;

            @Override
            public int otherwise(int action) {
                super.otherwise(action);
                int before = given;
                given = action;
                return before;
            }
        };
    }
}
