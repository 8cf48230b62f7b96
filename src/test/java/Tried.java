import java.lang.reflect.InvocationTargetException;
import java.lang.reflect.Proxy;
import java.util.Arrays;

/** A table under test: due(answer).call(..) makes the call and notes if it answers otherwise. */
final class Tried {
    static final int LEAST = Integer.MIN_VALUE;
    static final int MOST = Integer.MAX_VALUE;
    static final int EVERY = 31;       // the range from 0 to 31
    static final int ALL = 15;         // the set of the sorts 0 to 3
    private static final int MOST_CALLS = 512;

    private final Probe probe;
    private final Table table;
    private final StringBuilder calls = new StringBuilder();
    private int made = 0;

    Tried(Probe probe, Table table) {
        this.probe = probe;
        this.table = table;
    }

    static int range(int first, int last) {
        return 32 * first + last;
    }

    static int kind(int action, int sorts) {
        return 16 * action + sorts;
    }

    // The stripe of a source: a rule for that source alone. Stripes differ in
    // each part of a rule, so that a part left behind in a move is seen.

    static int stripeDestinations(int source) {
        return range(source, 31);
    }

    static int stripeSorts(int source) {
        return source % 15 + 1;
    }

    static int stripeAction(int source) {
        return (source + 1) % 4;
    }

    static int stripeCount(int source) {
        return (32 - source) * Integer.bitCount(stripeSorts(source));
    }

    static int stripeLeast(int source) {
        return 128 * source + 4 * source + leastSort(source);
    }

    private static int leastSort(int source) {
        return Integer.numberOfTrailingZeros(stripeSorts(source));
    }

    Tried putStripe(int place, int source, int rulesThen) {
        due(rulesThen).insert(place, range(source, source), stripeDestinations(source),
            kind(stripeAction(source), stripeSorts(source)));
        return this;
    }

    Table due(int want) {
        return (Table) Proxy.newProxyInstance(Table.class.getClassLoader(),
            new Class<?>[] {Table.class}, (proxy, method, arguments) -> {
                if (++made > MOST_CALLS) {
                    throw new IllegalStateException("the test goes beyond the document's calls");
                }
                String call = method.getName() + Arrays.toString(arguments);
                int got;
                try {
                    got = (int) method.invoke(table, arguments);
                } catch (InvocationTargetException failure) {
                    throw new IllegalStateException(call + " in " + calls, failure.getCause());
                }
                probe.noteAnswer(call + " after " + (calls.isEmpty() ? "nothing" : calls),
                    got, want);
                calls.append(call).append(' ');
                return got;
            });
    }

    /**
     * Checks that the rules are the stripes of these sources in this order, that
     * there is no other one, and that the default action is still 2.
     */
    void holdsStripes(int... sources) {
        int unmatched = 4096;
        for (int place = 0; place < sources.length; place++) {
            int source = sources[place];
            int action = stripeAction(source);
            due(place).decide(source, source, leastSort(source));
            due(action).action(source, 31, leastSort(source));
            due(stripeCount(source)).decided(place);
            due(stripeLeast(source)).witness(place);
            due(action == 2 ? 2 : 0).use(place);
            unmatched -= stripeCount(source);
        }
        due(-2).use(sources.length);
        due(unmatched).decided(-1);
        due(2).action(31, 31, 3);
    }

    /** The same for the stripes 0, 1, 2, .. that Probe.stripes puts in. */
    void holdsFirstStripes(int count) {
        int[] sources = new int[count];
        for (int place = 0; place < count; place++) {
            sources[place] = place;
        }
        holdsStripes(sources);
    }
}
