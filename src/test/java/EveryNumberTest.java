import java.util.ArrayList;
import java.util.List;

/**
 * The sentences that hold for every number of a small span, tried with every
 * one of them and with those just outside: a fault at a single number, which
 * the other tests may step over, is seen here.
 */
public final class EveryNumberTest {
    private static final int EVERY = Tried.EVERY;
    private static final int ALL = Tried.ALL;
    private static final int NEW_STRIPE = 20;

    public static void main(String[] args) {
        for (int first = 0; first < 32; first++) {
            for (int last = 0; last < 32; last++) {
                sourcesFrom(first, last);
                destinationsFrom(first, last);
            }
        }
        for (int action = 0; action < 4; action++) {
            for (int sorts = 0; sorts < 16; sorts++) {
                kindOf(action, sorts);
            }
            defaultOf(action);
        }
        for (int source = 0; source < 32; source++) {
            for (int destination = 0; destination < 32; destination++) {
                for (int sort = 0; sort < 4; sort++) {
                    ruleForOnly(source, destination, sort);
                }
            }
        }
        for (int source = -2; source < 34; source++) {
            packetsOf(source);
        }
        for (int rules = 0; rules <= 12; rules++) {
            for (int place = -2; place <= 14; place++) {
                insertAt(rules, place);
                removeAt(rules, place);
                shiftFrom(rules, place);
            }
        }
        Check.end();
    }

    private static PolicyTable oneRule(int sources, int destinations, int kind) {
        PolicyTable table = new PolicyTable();
        Check.due("insert(0, " + sources + ", " + destinations + ", " + kind + ")",
            table.insert(0, sources, destinations, kind), 1);
        return table;
    }

    // Promise 2, what the numbers of a rule say

    private static void sourcesFrom(int first, int last) {
        String rule = "sources from " + first + " to " + last;
        PolicyTable table = oneRule(32 * first + last, EVERY, 16 + ALL);
        int held = 0;
        for (int source = 0; source < 32; source++) {
            boolean in = first <= source && source <= last;
            held += in ? 1 : 0;
            Check.due(rule + ": decide(" + source + ", 9, 1)",
                table.decide(source, 9, 1), in ? 0 : -1);
        }
        Check.due(rule + ": decided(0)", table.decided(0), 128 * held);
        Check.due(rule + ": witness(0)", table.witness(0), held > 0 ? 128 * first : -1);
        Check.due(rule + ": use(0)", table.use(0), held > 0 ? 0 : 1);
    }

    private static void destinationsFrom(int first, int last) {
        String rule = "destinations from " + first + " to " + last;
        PolicyTable table = oneRule(EVERY, 32 * first + last, 16 + ALL);
        int held = 0;
        for (int destination = 0; destination < 32; destination++) {
            boolean in = first <= destination && destination <= last;
            held += in ? 1 : 0;
            Check.due(rule + ": decide(9, " + destination + ", 1)",
                table.decide(9, destination, 1), in ? 0 : -1);
        }
        Check.due(rule + ": decided(0)", table.decided(0), 128 * held);
        Check.due(rule + ": witness(0)", table.witness(0), held > 0 ? 4 * first : -1);
        Check.due(rule + ": use(0)", table.use(0), held > 0 ? 0 : 1);
    }

    private static void kindOf(int action, int sorts) {
        String rule = "action " + action + ", sorts " + sorts;
        PolicyTable table = oneRule(EVERY, EVERY, 16 * action + sorts);
        int unlike = (action + 1) % 4;
        Check.due(rule + ": otherwise(" + unlike + ")", table.otherwise(unlike), 0);
        int held = 0;
        for (int sort = 0; sort < 4; sort++) {
            boolean in = sorts / (1 << sort) % 2 == 1;
            held += in ? 1 : 0;
            Check.due(rule + ": decide(9, 9, " + sort + ")",
                table.decide(9, 9, sort), in ? 0 : -1);
            Check.due(rule + ": action(9, 9, " + sort + ")",
                table.action(9, 9, sort), in ? action : unlike);
        }
        Check.due(rule + ": having(" + action + ")", table.having(action), 1024 * held);
        Check.due(rule + ": having(" + unlike + ")", table.having(unlike), 4096 - 1024 * held);
    }

    // Promises 5 and 9, action & 3

    private static void defaultOf(int before) {
        for (int given = -9; given <= 9; given++) {
            PolicyTable table = new PolicyTable();
            String call = "default " + before + ", then otherwise(" + given + ")";
            Check.due("otherwise(" + before + ")", table.otherwise(before), 0);
            Check.due(call, table.otherwise(given), before);
            int then = Math.floorMod(given, 4);
            Check.due(call + ": action(9, 9, 1)", table.action(9, 9, 1), then);
            for (int asked = -9; asked <= 9; asked++) {
                Check.due(call + ": having(" + asked + ")", table.having(asked),
                    Math.floorMod(asked, 4) == then ? 4096 : 0);
            }
        }
    }

    // Promises 6 to 11 for each packet

    private static void ruleForOnly(int source, int destination, int sort) {
        int packet = 128 * source + 4 * destination + sort;
        String rule = "a rule for packet " + packet + " alone";
        PolicyTable table = oneRule(33 * source, 33 * destination, 16 + (1 << sort));
        Check.due(rule + ": decide", table.decide(source, destination, sort), 0);
        Check.due(rule + ": action", table.action(source, destination, sort), 1);
        Check.due(rule + ": decided(0)", table.decided(0), 1);
        Check.due(rule + ": decided(-1)", table.decided(-1), 4095);
        Check.due(rule + ": having(1)", table.having(1), 1);
        Check.due(rule + ": use(0)", table.use(0), 0);
        Check.due(rule + ": witness(0)", table.witness(0), packet);
        Check.due(rule + ": witness(-1)", table.witness(-1), packet == 0 ? 1 : 0);
        Check.due(rule + ": otherwise(1)", table.otherwise(1), 0);
        Check.due(rule + ", of the default action: use(0)", table.use(0), 2);
    }

    private static void packetsOf(int source) {
        // One table for each of the two calls, for the two together are more than 512 calls.
        PolicyTable decides = oneRule(EVERY, EVERY, 16 + ALL);
        PolicyTable acts = oneRule(EVERY, EVERY, 16 + ALL);
        for (int destination = -2; destination < 34; destination++) {
            for (int sort = -2; sort < 6; sort++) {
                boolean packet = source >= 0 && source <= 31
                    && destination >= 0 && destination <= 31 && sort >= 0 && sort <= 3;
                String fields = "(" + source + ", " + destination + ", " + sort + ")";
                Check.due("decide" + fields, decides.decide(source, destination, sort),
                    packet ? 0 : -2);
                Check.due("action" + fields, acts.action(source, destination, sort),
                    packet ? 1 : -2);
            }
        }
    }

    // Promises 2 to 4, each place with each number of rules

    private static void insertAt(int rules, int place) {
        Probe probe = new Probe(RealTable::new);
        Tried tried = probe.stripes(rules);
        List<Integer> order = stripesOf(rules);
        boolean taken = rules < 12 && place >= 0 && place <= rules;
        if (taken) {
            order.add(place, NEW_STRIPE);
        }
        tried.putStripe(place, NEW_STRIPE, taken ? rules + 1 : -1);
        endsWith(probe, tried, order);
    }

    private static void removeAt(int rules, int place) {
        Probe probe = new Probe(RealTable::new);
        Tried tried = probe.stripes(rules);
        List<Integer> order = stripesOf(rules);
        boolean taken = place >= 0 && place < rules;
        if (taken) {
            order.remove(place);
        }
        tried.due(taken ? rules - 1 : -1).remove(place);
        endsWith(probe, tried, order);
    }

    private static void shiftFrom(int rules, int from) {
        for (int to = -2; to <= 14; to++) {
            Probe probe = new Probe(RealTable::new);
            Tried tried = probe.stripes(rules);
            List<Integer> order = stripesOf(rules);
            boolean taken = from >= 0 && from < rules && to >= 0 && to < rules;
            if (taken) {
                Integer stripe = order.remove(from);
                order.add(to, stripe);
            }
            tried.due(taken ? 0 : -1).shift(from, to);
            endsWith(probe, tried, order);
        }
    }

    private static List<Integer> stripesOf(int rules) {
        List<Integer> sources = new ArrayList<>();
        for (int source = 0; source < rules; source++) {
            sources.add(source);
        }
        return sources;
    }

    private static void endsWith(Probe probe, Tried tried, List<Integer> order) {
        tried.holdsStripes(order.stream().mapToInt(source -> source).toArray());
        for (String wrong : probe.wrong()) {
            Check.holds(wrong, false);
        }
        Check.holds("the order " + order, probe.wrong().isEmpty());
    }
}
