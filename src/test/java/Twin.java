/**
 * A PolicyTable and a Reference that are given the same calls; each answer is
 * checked. Counts the calls, for nothing is promised after the 512th.
 */
final class Twin {
    private static final int MOST_CALLS = 512;

    private final PolicyTable table = new PolicyTable();
    private final Reference reference = new Reference();
    private final String name;
    private int calls = 0;

    Twin(String name) {
        this.name = name;
    }

    int size() {
        return reference.size();
    }

    int callsLeft() {
        return MOST_CALLS - calls;
    }

    int insert(int place, int sources, int destinations, int kind) {
        return same("insert(" + place + ", " + sources + ", " + destinations + ", " + kind + ")",
            table.insert(place, sources, destinations, kind),
            reference.insert(place, sources, destinations, kind));
    }

    int remove(int place) {
        return same("remove(" + place + ")", table.remove(place), reference.remove(place));
    }

    int shift(int from, int to) {
        return same("shift(" + from + ", " + to + ")",
            table.shift(from, to), reference.shift(from, to));
    }

    int otherwise(int action) {
        return same("otherwise(" + action + ")",
            table.otherwise(action), reference.otherwise(action));
    }

    int decide(int source, int destination, int sort) {
        return same("decide(" + source + ", " + destination + ", " + sort + ")",
            table.decide(source, destination, sort),
            reference.decide(source, destination, sort));
    }

    int action(int source, int destination, int sort) {
        return same("action(" + source + ", " + destination + ", " + sort + ")",
            table.action(source, destination, sort),
            reference.action(source, destination, sort));
    }

    int decided(int place) {
        return same("decided(" + place + ")", table.decided(place), reference.decided(place));
    }

    int having(int action) {
        return same("having(" + action + ")", table.having(action), reference.having(action));
    }

    int use(int place) {
        return same("use(" + place + ")", table.use(place), reference.use(place));
    }

    int witness(int place) {
        return same("witness(" + place + ")", table.witness(place), reference.witness(place));
    }

    /** Asks everything that can be asked of the rules without a change: 46 calls at most. */
    void lookAtAll() {
        for (int place = -1; place <= size(); place++) {
            decided(place);
            witness(place);
            use(place);
        }
        for (int action = 0; action < 4; action++) {
            having(action);
        }
    }

    private int same(String call, int got, int want) {
        calls++;
        if (calls > MOST_CALLS) {
            throw new IllegalStateException(name + " goes beyond the calls of the document");
        }
        Check.due(name + ", call " + calls + ": " + call, got, want);
        return got;
    }
}
