import java.util.ArrayList;
import java.util.List;

/**
 * The document's terms taken word by word, with no care for speed: a list of
 * rules, each packet looked at by its three fields, and "leaving it out" done
 * by really leaving the rule out. What decides whether a rule matches can be
 * overridden, to make tables with a fault.
 */
class Reference implements Table {
    record Rule(int s1, int s2, int d1, int d2, int sorts, int action) {
    }

    private final List<Rule> rules = new ArrayList<>();
    private int defaultAction = 0;

    int size() {
        return rules.size();
    }

    int mostRules() {
        return 12;
    }

    boolean holdsSource(int first, int last, int source) {
        return first <= source && source <= last;
    }

    boolean holdsDestination(int first, int last, int destination) {
        return first <= destination && destination <= last;
    }

    boolean holdsSort(int sorts, int sort) {
        return sorts / (1 << sort) % 2 == 1;
    }

    @Override
    public int insert(int place, int sources, int destinations, int kind) {
        if (place < 0 || place > rules.size() || rules.size() == mostRules()
            || sources < 0 || sources > 1023
            || destinations < 0 || destinations > 1023
            || kind < 0 || kind > 63) {
            return -1;
        }
        rules.add(place, new Rule(sources / 32, sources % 32,
            destinations / 32, destinations % 32, kind % 16, kind / 16));
        return rules.size();
    }

    @Override
    public int remove(int place) {
        if (!isPlace(place)) {
            return -1;
        }
        rules.remove(place);
        return rules.size();
    }

    @Override
    public int shift(int from, int to) {
        if (!isPlace(from) || !isPlace(to)) {
            return -1;
        }
        Rule rule = rules.remove(from);
        rules.add(to, rule);
        return 0;
    }

    @Override
    public int otherwise(int action) {
        int before = defaultAction;
        defaultAction = Math.floorMod(action, 4);
        return before;
    }

    @Override
    public int decide(int source, int destination, int sort) {
        return isPacket(source, destination, sort)
            ? deciding(rules, source, destination, sort) : -2;
    }

    @Override
    public int action(int source, int destination, int sort) {
        return isPacket(source, destination, sort)
            ? actionUnder(rules, source, destination, sort) : -2;
    }

    @Override
    public int decided(int place) {
        if (place != -1 && !isPlace(place)) {
            return -2;
        }
        return packetsDecided(place).size();
    }

    @Override
    public int having(int action) {
        int count = 0;
        for (int given : actionsUnder(rules)) {
            if (given == Math.floorMod(action, 4)) {
                count++;
            }
        }
        return count;
    }

    @Override
    public int use(int place) {
        if (!isPlace(place)) {
            return -2;
        }
        if (packetsDecided(place).isEmpty()) {
            return 1;
        }
        List<Rule> others = new ArrayList<>(rules);
        others.remove(place);
        return actionsUnder(others).equals(actionsUnder(rules)) ? 2 : 0;
    }

    @Override
    public int witness(int place) {
        if (place != -1 && !isPlace(place)) {
            return -2;
        }
        return packetsDecided(place).stream().min(Integer::compare).orElse(-1);
    }

    boolean isPlace(int place) {
        return 0 <= place && place < rules.size();
    }

    List<Integer> packetsDecided(int place) {
        List<Integer> packets = new ArrayList<>();
        for (int sort = 0; sort < 4; sort++) {
            for (int destination = 0; destination < 32; destination++) {
                for (int source = 0; source < 32; source++) {
                    if (deciding(rules, source, destination, sort) == place) {
                        packets.add(128 * source + 4 * destination + sort);
                    }
                }
            }
        }
        return packets;
    }

    int actionOf(int packet) {
        return actionUnder(rules, packet / 128, packet / 4 % 32, packet % 4);
    }

    int actionWithout(int place, int packet) {
        List<Rule> others = new ArrayList<>(rules);
        others.remove(place);
        return actionUnder(others, packet / 128, packet / 4 % 32, packet % 4);
    }

    private static boolean isPacket(int source, int destination, int sort) {
        return 0 <= source && source <= 31 && 0 <= destination
            && destination <= 31 && 0 <= sort && sort <= 3;
    }

    private boolean matches(Rule rule, int source, int destination, int sort) {
        return holdsSource(rule.s1(), rule.s2(), source)
            && holdsDestination(rule.d1(), rule.d2(), destination)
            && holdsSort(rule.sorts(), sort);
    }

    private int deciding(List<Rule> order, int source, int destination, int sort) {
        for (int place = 0; place < order.size(); place++) {
            if (matches(order.get(place), source, destination, sort)) {
                return place;
            }
        }
        return -1;
    }

    private int actionUnder(List<Rule> order, int source, int destination, int sort) {
        int place = deciding(order, source, destination, sort);
        return place == -1 ? defaultAction : order.get(place).action();
    }

    private List<Integer> actionsUnder(List<Rule> order) {
        List<Integer> actions = new ArrayList<>();
        for (int source = 0; source < 32; source++) {
            for (int destination = 0; destination < 32; destination++) {
                for (int sort = 0; sort < 4; sort++) {
                    actions.add(actionUnder(order, source, destination, sort));
                }
            }
        }
        return actions;
    }
}
