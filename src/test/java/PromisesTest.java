/**
 * The promises one by one, with answers worked out by hand: ordinary inputs,
 * the edges that the document names, and wrong inputs.
 */
public final class PromisesTest {
    private static final int EVERY = 31;          // 32 * 0 + 31
    private static final int LEAST = Integer.MIN_VALUE;
    private static final int MOST = Integer.MAX_VALUE;
    private static final int[] FAR = {LEAST, -1025, -33, -2, 12, 13, 64, 4096, MOST};

    public static void main(String[] args) {
        newObjectHasNoRuleAndDefaultZero();
        insertCountsUp();
        insertMovesTheRulesBehind();
        insertReadsItsNumbers();
        insertRefusesWrongNumbers();
        insertRefusesTheThirteenth();
        removeMovesTheRulesBack();
        removeRefuses();
        removedRulesLeaveNothingBehind();
        shiftMovesOneRule();
        shiftRefuses();
        otherwiseAnswersTheOneBefore();
        decideTellsTheFirstMatch();
        decideKeepsToTheEndsOfRanges();
        decideRefusesWhatIsNoPacket();
        actionIsTheDecidingRules();
        actionRefusesWhatIsNoPacket();
        decidedCounts();
        decidedRefuses();
        havingCounts();
        useTellsDeadIdleAndNeeded();
        useLooksAtTheRulesBehind();
        useRefuses();
        witnessIsTheLeast();
        witnessRefuses();
        Check.end();
    }

    private static int range(int first, int last) {
        return 32 * first + last;
    }

    private static int kind(int action, int sorts) {
        return 16 * action + sorts;
    }

    private static void due(String call, int got, int want) {
        Check.due(call, got, want);
    }

    /** Rules 0, 1, 2, .. that match every packet with source 0, 1, 2, .. alone; action: place % 4. */
    private static PolicyTable stripes(int count) {
        PolicyTable table = new PolicyTable();
        for (int place = 0; place < count; place++) {
            due("stripes insert", table.insert(place, range(place, place), EVERY,
                kind(place % 4, 15)), place + 1);
        }
        return table;
    }

    /** Checks that the places hold the stripes of these sources, and no more rules stand. */
    private static void dueOrder(String when, PolicyTable table, int... sources) {
        for (int place = 0; place < sources.length; place++) {
            due(when + ": decide(" + sources[place] + ", 0, 0)",
                table.decide(sources[place], 0, 0), place);
            due(when + ": action(" + sources[place] + ", 31, 3)",
                table.action(sources[place], 31, 3), sources[place] % 4);
            due(when + ": witness(" + place + ")", table.witness(place), 128 * sources[place]);
        }
        due(when + ": use(behind the last)", table.use(sources.length), -2);
        due(when + ": decided(-1)", table.decided(-1), 4096 - 128 * sources.length);
    }

    // Promise 1

    private static void newObjectHasNoRuleAndDefaultZero() {
        PolicyTable table = new PolicyTable();
        due("new: decide(0, 0, 0)", table.decide(0, 0, 0), -1);
        due("new: decide(31, 31, 3)", table.decide(31, 31, 3), -1);
        due("new: action(0, 0, 0)", table.action(0, 0, 0), 0);
        due("new: decided(-1)", table.decided(-1), 4096);
        due("new: having(0)", table.having(0), 4096);
        due("new: having(1)", table.having(1), 0);
        due("new: witness(-1)", table.witness(-1), 0);
        due("new: use(0)", table.use(0), -2);
        due("new: remove(0)", table.remove(0), -1);
        due("new: shift(0, 0)", table.shift(0, 0), -1);
        due("new: otherwise(0)", table.otherwise(0), 0);
        table.insert(0, EVERY, EVERY, kind(2, 15));
        table.otherwise(3);
        PolicyTable other = new PolicyTable();
        due("second new: decided(-1)", other.decided(-1), 4096);
        due("second new: otherwise(1)", other.otherwise(1), 0);
    }

    // Promise 2

    private static void insertCountsUp() {
        PolicyTable table = new PolicyTable();
        for (int count = 1; count <= 12; count++) {
            due("insert " + count, table.insert(0, 0, 0, 0), count);
        }
    }

    private static void insertMovesTheRulesBehind() {
        PolicyTable table = stripes(3);
        due("insert at 0", table.insert(0, range(10, 10), EVERY, kind(2, 15)), 4);
        dueOrder("insert at 0", table, 10, 0, 1, 2);
        due("insert at 2", table.insert(2, range(11, 11), EVERY, kind(3, 15)), 5);
        dueOrder("insert at 2", table, 10, 0, 11, 1, 2);
        due("insert at 5", table.insert(5, range(12, 12), EVERY, kind(0, 15)), 6);
        dueOrder("insert at 5", table, 10, 0, 11, 1, 2, 12);
    }

    private static void insertReadsItsNumbers() {
        PolicyTable table = new PolicyTable();
        due("insert(0, 67, 197, 57)", table.insert(0, 67, 197, 57), 1);
        due("67: s1 2, s2 3; 197: d1 6, d2 5, empty", table.decided(0), 0);
        due("insert(0, 67, 166, 57)", table.insert(0, 67, 166, 57), 2);
        due("67: s1 2, s2 3; 166: d1 5, d2 6; 57: action 3, sorts 0 and 3",
            table.decided(0), 8);
        due("57: action 3", table.action(3, 6, 3), 3);
        due("57: sort 0", table.decide(2, 5, 0), 0);
        due("57: not sort 1", table.decide(2, 5, 1), -1);
        due("57: not sort 2", table.decide(2, 5, 2), -1);
        due("insert(0, 1023, 1023, 63)", table.insert(0, 1023, 1023, 63), 3);
        due("1023: the field 31 alone", table.decided(0), 4);
        due("1023: its least packet", table.witness(0), 4092);
        due("insert(3, 0, 0, 0)", table.insert(3, 0, 0, 0), 4);
        due("kind 0: no sort", table.decided(3), 0);
        for (int sort = 0; sort < 4; sort++) {
            due("insert one sort", table.insert(0, EVERY, EVERY, 1 << sort), 5);
            due("one sort: decided(0)", table.decided(0), 1024);
            due("one sort: witness(0)", table.witness(0), sort);
            due("remove one sort", table.remove(0), 4);
        }
    }

    private static void insertRefusesWrongNumbers() {
        PolicyTable table = stripes(2);
        due("insert(-1, ..)", table.insert(-1, EVERY, EVERY, 15), -1);
        due("insert(3, ..)", table.insert(3, EVERY, EVERY, 15), -1);
        due("insert(sources -1)", table.insert(0, -1, EVERY, 15), -1);
        due("insert(sources 1024)", table.insert(0, 1024, EVERY, 15), -1);
        due("insert(destinations -1)", table.insert(0, EVERY, -1, 15), -1);
        due("insert(destinations 1024)", table.insert(0, EVERY, 1024, 15), -1);
        due("insert(kind -1)", table.insert(0, EVERY, EVERY, -1), -1);
        due("insert(kind 64)", table.insert(0, EVERY, EVERY, 64), -1);
        for (int far : new int[] {LEAST, LEAST + 1, -1024, MOST - 1, MOST}) {
            due("insert(place " + far + ")", table.insert(far, EVERY, EVERY, 15), -1);
            due("insert(sources " + far + ")", table.insert(0, far, EVERY, 15), -1);
            due("insert(destinations " + far + ")", table.insert(0, EVERY, far, 15), -1);
            due("insert(kind " + far + ")", table.insert(0, EVERY, EVERY, far), -1);
        }
        dueOrder("after refused inserts", table, 0, 1);
        due("insert after refused ones", table.insert(2, EVERY, EVERY, 15), 3);
    }

    private static void insertRefusesTheThirteenth() {
        PolicyTable table = stripes(12);
        for (int place = 0; place <= 13; place++) {
            due("thirteenth insert(" + place + ")", table.insert(place, EVERY, EVERY, 15), -1);
        }
        dueOrder("full", table, 0, 1, 2, 3, 4, 5, 6, 7, 8, 9, 10, 11);
        due("remove(11) from the full", table.remove(11), 11);
        due("insert after remove", table.insert(0, range(20, 20), EVERY, 15), 12);
        dueOrder("full again", table, 20, 0, 1, 2, 3, 4, 5, 6, 7, 8, 9, 10);
    }

    // Promise 3

    private static void removeMovesTheRulesBack() {
        PolicyTable table = stripes(12);
        due("remove(3)", table.remove(3), 11);
        dueOrder("remove(3)", table, 0, 1, 2, 4, 5, 6, 7, 8, 9, 10, 11);
        due("remove(0)", table.remove(0), 10);
        dueOrder("remove(0)", table, 1, 2, 4, 5, 6, 7, 8, 9, 10, 11);
        due("remove(9)", table.remove(9), 9);
        dueOrder("remove(9)", table, 1, 2, 4, 5, 6, 7, 8, 9, 10);
    }

    private static void removeRefuses() {
        PolicyTable table = stripes(2);
        due("remove(-1)", table.remove(-1), -1);
        due("remove(2)", table.remove(2), -1);
        for (int far : FAR) {
            due("remove(" + far + ")", table.remove(far), -1);
        }
        dueOrder("after refused removes", table, 0, 1);
    }

    private static void removedRulesLeaveNothingBehind() {
        PolicyTable table = stripes(1);
        due("remove the only one", table.remove(0), 0);
        due("remove from none", table.remove(0), -1);
        dueOrder("none left", table);
        due("insert into none", table.insert(0, range(4, 4), EVERY, 15), 1);
        dueOrder("one again", table, 4);
    }

    // Promise 4

    private static void shiftMovesOneRule() {
        PolicyTable table = stripes(5);
        due("shift(1, 3)", table.shift(1, 3), 0);
        dueOrder("shift(1, 3)", table, 0, 2, 3, 1, 4);
        due("shift(3, 1)", table.shift(3, 1), 0);
        dueOrder("shift(3, 1)", table, 0, 1, 2, 3, 4);
        due("shift(0, 4)", table.shift(0, 4), 0);
        dueOrder("shift(0, 4)", table, 1, 2, 3, 4, 0);
        due("shift(4, 0)", table.shift(4, 0), 0);
        dueOrder("shift(4, 0)", table, 0, 1, 2, 3, 4);
        due("shift(2, 2)", table.shift(2, 2), 0);
        dueOrder("shift(2, 2)", table, 0, 1, 2, 3, 4);
        PolicyTable full = stripes(12);
        due("shift(11, 0)", full.shift(11, 0), 0);
        dueOrder("shift(11, 0)", full, 11, 0, 1, 2, 3, 4, 5, 6, 7, 8, 9, 10);
        due("shift(0, 11)", full.shift(0, 11), 0);
        dueOrder("shift(0, 11)", full, 0, 1, 2, 3, 4, 5, 6, 7, 8, 9, 10, 11);
    }

    private static void shiftRefuses() {
        PolicyTable table = stripes(3);
        due("shift(-1, 0)", table.shift(-1, 0), -1);
        due("shift(0, -1)", table.shift(0, -1), -1);
        due("shift(3, 0)", table.shift(3, 0), -1);
        due("shift(0, 3)", table.shift(0, 3), -1);
        due("shift(3, 3)", table.shift(3, 3), -1);
        for (int far : FAR) {
            due("shift(" + far + ", 1)", table.shift(far, 1), -1);
            due("shift(1, " + far + ")", table.shift(1, far), -1);
            due("shift(" + far + ", " + far + ")", table.shift(far, far), -1);
        }
        dueOrder("after refused shifts", table, 0, 1, 2);
    }

    // Promise 5

    private static void otherwiseAnswersTheOneBefore() {
        PolicyTable table = new PolicyTable();
        due("otherwise(1)", table.otherwise(1), 0);
        due("action under 1", table.action(0, 0, 0), 1);
        due("otherwise(3)", table.otherwise(3), 1);
        due("otherwise(6)", table.otherwise(6), 3);
        due("having(2) under 6", table.having(2), 4096);
        due("otherwise(-1)", table.otherwise(-1), 2);
        due("action under -1", table.action(5, 5, 1), 3);
        due("otherwise(-4)", table.otherwise(-4), 3);
        due("otherwise(the most)", table.otherwise(MOST), 0);
        due("otherwise(the least)", table.otherwise(LEAST), 3);
        due("otherwise(4)", table.otherwise(4), 0);
        due("otherwise(0)", table.otherwise(0), 0);
        due("otherwise leaves no rule", table.decided(-1), 4096);
    }

    // Promise 6

    private static void decideTellsTheFirstMatch() {
        PolicyTable table = new PolicyTable();
        table.insert(0, range(2, 9), range(4, 7), kind(1, 5));
        table.insert(1, range(2, 9), range(4, 7), kind(2, 15));
        table.insert(2, EVERY, range(7, 8), kind(3, 15));
        due("both match, sort 0", table.decide(5, 5, 0), 0);
        due("second alone, sort 1", table.decide(5, 5, 1), 1);
        due("all match, sort 2", table.decide(5, 7, 2), 0);
        due("second and third, sort 3", table.decide(5, 7, 3), 1);
        due("third alone", table.decide(5, 8, 0), 2);
        due("none", table.decide(5, 9, 0), -1);
    }

    private static void decideKeepsToTheEndsOfRanges() {
        PolicyTable table = new PolicyTable();
        table.insert(0, range(3, 6), range(10, 12), kind(1, 15));
        for (int source = 0; source < 32; source++) {
            due("decide(" + source + ", 11, 1)", table.decide(source, 11, 1),
                source >= 3 && source <= 6 ? 0 : -1);
        }
        for (int destination = 0; destination < 32; destination++) {
            due("decide(4, " + destination + ", 1)", table.decide(4, destination, 1),
                destination >= 10 && destination <= 12 ? 0 : -1);
        }
        PolicyTable empty = new PolicyTable();
        empty.insert(0, range(6, 5), EVERY, kind(1, 15));
        empty.insert(1, EVERY, range(31, 0), kind(1, 15));
        for (int value = 0; value < 32; value++) {
            due("empty ranges: decide(" + value + ", " + value + ", 0)",
                empty.decide(value, value, 0), -1);
        }
    }

    private static void decideRefusesWhatIsNoPacket() {
        PolicyTable table = new PolicyTable();
        table.insert(0, EVERY, EVERY, kind(1, 15));
        due("decide(-1, 0, 0)", table.decide(-1, 0, 0), -2);
        due("decide(32, 0, 0)", table.decide(32, 0, 0), -2);
        due("decide(0, -1, 0)", table.decide(0, -1, 0), -2);
        due("decide(0, 32, 0)", table.decide(0, 32, 0), -2);
        due("decide(0, 0, -1)", table.decide(0, 0, -1), -2);
        due("decide(0, 0, 4)", table.decide(0, 0, 4), -2);
        due("decide(1, -1, 4)", table.decide(1, -1, 4), -2);
        for (int far : new int[] {LEAST, -128, 1 << 25, 1 << 30, MOST}) {
            due("decide(" + far + ", 0, 0)", table.decide(far, 0, 0), -2);
            due("decide(0, " + far + ", 0)", table.decide(0, far, 0), -2);
            due("decide(0, 0, " + far + ")", table.decide(0, 0, far), -2);
        }
        due("decide(31, 31, 3)", table.decide(31, 31, 3), 0);
        due("decide(0, 0, 0)", table.decide(0, 0, 0), 0);
    }

    // Promise 7

    private static void actionIsTheDecidingRules() {
        PolicyTable table = new PolicyTable();
        table.insert(0, range(2, 9), range(4, 7), kind(1, 5));
        table.insert(1, range(2, 9), range(4, 7), kind(2, 15));
        table.insert(2, EVERY, range(7, 8), kind(0, 15));
        table.otherwise(3);
        due("first rule", table.action(2, 4, 0), 1);
        due("second rule", table.action(9, 7, 1), 2);
        due("third rule", table.action(10, 7, 1), 0);
        due("default", table.action(10, 9, 1), 3);
        table.otherwise(2);
        due("default set anew", table.action(10, 9, 1), 2);
        due("first rule, still", table.action(2, 4, 0), 1);
        table.remove(0);
        due("first rule gone", table.action(2, 4, 0), 2);
    }

    private static void actionRefusesWhatIsNoPacket() {
        PolicyTable table = new PolicyTable();
        table.insert(0, EVERY, EVERY, kind(1, 15));
        due("action(-1, 0, 0)", table.action(-1, 0, 0), -2);
        due("action(32, 0, 0)", table.action(32, 0, 0), -2);
        due("action(0, -1, 0)", table.action(0, -1, 0), -2);
        due("action(0, 32, 0)", table.action(0, 32, 0), -2);
        due("action(0, 0, -1)", table.action(0, 0, -1), -2);
        due("action(0, 0, 4)", table.action(0, 0, 4), -2);
        for (int far : new int[] {LEAST, -128, 1 << 25, 1 << 30, MOST}) {
            due("action(" + far + ", 0, 0)", table.action(far, 0, 0), -2);
            due("action(0, " + far + ", 0)", table.action(0, far, 0), -2);
            due("action(0, 0, " + far + ")", table.action(0, 0, far), -2);
        }
        due("action(31, 31, 3)", table.action(31, 31, 3), 1);
    }

    // Promise 8

    private static void decidedCounts() {
        PolicyTable table = new PolicyTable();
        table.insert(0, range(0, 3), range(0, 3), kind(1, 15));
        table.insert(1, range(2, 5), range(2, 5), kind(1, 3));
        table.insert(2, range(2, 3), range(2, 3), kind(2, 15));
        due("decided(0): 4 * 4 * 4", table.decided(0), 64);
        due("decided(1): 4 * 4 * 2 less 2 * 2 * 2", table.decided(1), 24);
        due("decided(2): all before", table.decided(2), 0);
        due("decided(-1): the rest", table.decided(-1), 4096 - 64 - 24);
        table.shift(2, 0);
        due("shifted: decided(0)", table.decided(0), 16);
        due("shifted: decided(1)", table.decided(1), 48);
        due("shifted: decided(2)", table.decided(2), 24);
        table.insert(3, EVERY, EVERY, kind(0, 15));
        due("all matched: decided(-1)", table.decided(-1), 0);
    }

    private static void decidedRefuses() {
        PolicyTable table = stripes(2);
        due("decided(2)", table.decided(2), -2);
        for (int far : FAR) {
            due("decided(" + far + ")", table.decided(far), -2);
        }
        PolicyTable none = new PolicyTable();
        due("none: decided(0)", none.decided(0), -2);
    }

    // Promise 9

    private static void havingCounts() {
        PolicyTable table = new PolicyTable();
        table.insert(0, range(0, 0), EVERY, kind(0, 15));
        table.insert(1, range(1, 1), EVERY, kind(2, 7));
        table.insert(2, range(0, 2), EVERY, kind(1, 15));
        table.otherwise(3);
        int[] counts = {128, 160, 96, 3712};
        for (int action = -8; action < 8; action++) {
            due("having(" + action + ")", table.having(action), counts[action & 3]);
        }
        due("having(the least)", table.having(LEAST), 128);
        due("having(the most)", table.having(MOST), 3712);
        table.otherwise(1);
        due("default as some rules: having(1)", table.having(1), 3872);
        due("default as some rules: having(3)", table.having(3), 0);
    }

    // Promise 10

    private static void useTellsDeadIdleAndNeeded() {
        PolicyTable table = new PolicyTable();
        table.insert(0, range(5, 9), EVERY, kind(1, 15));
        due("needed", table.use(0), 0);
        table.otherwise(1);
        due("idle, as the default", table.use(0), 2);
        table.insert(0, range(5, 9), EVERY, kind(1, 15));
        due("idle, as the one behind", table.use(0), 2);
        due("dead, though of the default action", table.use(1), 1);
        table.insert(0, range(9, 5), EVERY, kind(2, 15));
        due("dead, its range holds nothing", table.use(0), 1);
        table.insert(0, EVERY, EVERY, kind(2, 0));
        due("dead, it has no sort", table.use(0), 1);
    }

    private static void useLooksAtTheRulesBehind() {
        PolicyTable table = new PolicyTable();
        table.insert(0, range(0, 10), EVERY, kind(1, 15));
        table.insert(1, range(0, 9), EVERY, kind(1, 15));
        due("one source falls to the default", table.use(0), 0);
        due("the second is dead beside the first", table.use(1), 1);
        table.insert(2, range(10, 10), EVERY, kind(1, 14));
        due("one sort falls to the default", table.use(0), 0);
        table.insert(3, range(10, 31), EVERY, kind(1, 1));
        due("the ones behind do the same together", table.use(0), 2);
        table.insert(1, range(31, 31), range(31, 31), kind(2, 8));
        due("one that never meets it", table.use(0), 2);
        table.insert(1, range(10, 10), range(31, 31), kind(2, 8));
        due("the next behind does otherwise", table.use(0), 0);
        due("the next behind is dead", table.use(1), 1);
        table.shift(1, 5);
        due("the other action too far behind to matter", table.use(0), 2);
        PolicyTable last = new PolicyTable();
        last.insert(0, EVERY, EVERY, kind(1, 15));
        last.insert(0, range(31, 31), range(31, 31), kind(2, 8));
        due("needed for the last packet alone", last.use(0), 0);
        due("needed for all but the last packet", last.use(1), 0);
        PolicyTable first = new PolicyTable();
        first.insert(0, EVERY, EVERY, kind(1, 15));
        first.insert(0, range(0, 0), range(0, 0), kind(2, 1));
        due("needed for the first packet alone", first.use(0), 0);
        first.otherwise(1);
        due("still needed for the first packet", first.use(0), 0);
        due("idle for all but the first packet", first.use(1), 2);
    }

    private static void useRefuses() {
        PolicyTable table = stripes(2);
        due("use(-1)", table.use(-1), -2);
        due("use(2)", table.use(2), -2);
        for (int far : FAR) {
            due("use(" + far + ")", table.use(far), -2);
        }
    }

    // Promise 11

    private static void witnessIsTheLeast() {
        PolicyTable table = new PolicyTable();
        table.insert(0, range(0, 1), range(0, 30), kind(1, 15));
        table.insert(1, range(0, 5), EVERY, kind(2, 12));
        table.insert(2, range(1, 5), range(3, 31), kind(2, 15));
        table.insert(3, range(1, 1), range(3, 4), kind(2, 15));
        due("witness(0)", table.witness(0), 0);
        due("witness(1): 0, 31, 2", table.witness(1), 4 * 31 + 2);
        due("witness(2): 1, 31, 0", table.witness(2), 128 + 4 * 31);
        due("witness(3): dead", table.witness(3), -1);
        due("witness(-1): 0, 31, 0", table.witness(-1), 4 * 31);
        table.insert(4, range(0, 30), EVERY, kind(0, 15));
        due("witness(-1): 31, 0, 0", table.witness(-1), 128 * 31);
        table.insert(5, EVERY, range(0, 30), kind(0, 15));
        table.insert(6, EVERY, EVERY, kind(0, 7));
        due("witness(-1): the last packet", table.witness(-1), 4095);
        table.insert(7, EVERY, EVERY, kind(0, 15));
        due("witness(7): the last packet", table.witness(7), 4095);
        due("witness(-1): none", table.witness(-1), -1);
    }

    private static void witnessRefuses() {
        PolicyTable table = stripes(2);
        due("witness(2)", table.witness(2), -2);
        for (int far : FAR) {
            due("witness(" + far + ")", table.witness(far), -2);
        }
        PolicyTable none = new PolicyTable();
        due("none: witness(0)", none.witness(0), -2);
        due("none: witness(-2)", none.witness(-2), -2);
    }
}
