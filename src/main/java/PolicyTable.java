/**
 * Ordered rules for packets by ranges of their fields, how packets are dealt
 * with, and which rules matter.
 */
public final class PolicyTable {
    private static final int MOST_RULES = 12;
    private static final int FIELD_SIZE = 32;
    private static final int SORT_COUNT = 4;
    private static final int PACKET_COUNT = 4096;
    private static final int RANGE_COUNT = 1024;
    private static final int KIND_COUNT = 64;
    private static final int ACTION_MASK = 3;

    private static final int REFUSED = -1;
    private static final int NONE = -1;
    private static final int NO_SUCH = -2;

    private static final int NEEDED = 0;
    private static final int DEAD = 1;
    private static final int IDLE = 2;

    // A rule is kept as the three numbers that insert was given, so that
    // moving a rule is copying three numbers.
    private final int[] ruleSources = new int[MOST_RULES];
    private final int[] ruleDestinations = new int[MOST_RULES];
    private final int[] ruleKinds = new int[MOST_RULES];
    private int ruleCount;
    private int defaultAction;

    public PolicyTable() {
        ruleCount = 0;
        defaultAction = 0;
    }

    public int insert(int place, int sources, int destinations, int kind) {
        if (place < 0 || place > ruleCount || ruleCount >= MOST_RULES) {
            return REFUSED;
        }
        if (!isRange(sources) || !isRange(destinations) || !isKind(kind)) {
            return REFUSED;
        }
        for (int at = ruleCount; at > place; at--) {
            copyRule(at - 1, at);
        }
        putRule(place, sources, destinations, kind);
        ruleCount++;
        return ruleCount;
    }

    public int remove(int place) {
        if (!isPlace(place)) {
            return REFUSED;
        }
        ruleCount--;
        for (int at = place; at < ruleCount; at++) {
            copyRule(at + 1, at);
        }
        return ruleCount;
    }

    public int shift(int from, int to) {
        if (!isPlace(from) || !isPlace(to)) {
            return REFUSED;
        }
        int sources = ruleSources[from];
        int destinations = ruleDestinations[from];
        int kind = ruleKinds[from];
        for (int at = from; at < to; at++) {
            copyRule(at + 1, at);
        }
        for (int at = from; at > to; at--) {
            copyRule(at - 1, at);
        }
        putRule(to, sources, destinations, kind);
        return 0;
    }

    public int otherwise(int action) {
        int before = defaultAction;
        defaultAction = action & ACTION_MASK;
        return before;
    }

    public int decide(int source, int destination, int sort) {
        if (!isPacket(source, destination, sort)) {
            return NO_SUCH;
        }
        int packet = packetNumber(source, destination, sort);
        return firstMatch(packet, 0);
    }

    public int action(int source, int destination, int sort) {
        if (!isPacket(source, destination, sort)) {
            return NO_SUCH;
        }
        int packet = packetNumber(source, destination, sort);
        return packetAction(packet, 0);
    }

    public int decided(int place) {
        if (place != NONE && !isPlace(place)) {
            return NO_SUCH;
        }
        int count = 0;
        for (int packet = 0; packet < PACKET_COUNT; packet++) {
            if (firstMatch(packet, 0) == place) {
                count++;
            }
        }
        return count;
    }

    public int having(int action) {
        int wanted = action & ACTION_MASK;
        int count = 0;
        for (int packet = 0; packet < PACKET_COUNT; packet++) {
            if (packetAction(packet, 0) == wanted) {
                count++;
            }
        }
        return count;
    }

    public int use(int place) {
        if (!isPlace(place)) {
            return NO_SUCH;
        }
        int answer = DEAD;
        for (int packet = 0; packet < PACKET_COUNT; packet++) {
            if (firstMatch(packet, 0) == place) {
                // No rule before this one matches the packet, so without this
                // one the packet would fall to the rules behind it.
                if (packetAction(packet, place + 1) != ruleAction(place)) {
                    return NEEDED;
                }
                answer = IDLE;
            }
        }
        return answer;
    }

    public int witness(int place) {
        if (place != NONE && !isPlace(place)) {
            return NO_SUCH;
        }
        for (int packet = 0; packet < PACKET_COUNT; packet++) {
            if (firstMatch(packet, 0) == place) {
                return packet;
            }
        }
        return NONE;
    }

    private boolean isPlace(int place) {
        return place >= 0 && place < ruleCount;
    }

    private static boolean isRange(int range) {
        return range >= 0 && range < RANGE_COUNT;
    }

    private static boolean isKind(int kind) {
        return kind >= 0 && kind < KIND_COUNT;
    }

    private static boolean isPacket(int source, int destination, int sort) {
        return source >= 0 && source < FIELD_SIZE
            && destination >= 0 && destination < FIELD_SIZE
            && sort >= 0 && sort < SORT_COUNT;
    }

    // The document's order of the packets: counting up through these numbers
    // meets the least packet first.
    private static int packetNumber(int source, int destination, int sort) {
        return 128 * source + 4 * destination + sort;
    }

    private void putRule(int place, int sources, int destinations, int kind) {
        ruleSources[place] = sources;
        ruleDestinations[place] = destinations;
        ruleKinds[place] = kind;
    }

    private void copyRule(int from, int to) {
        ruleSources[to] = ruleSources[from];
        ruleDestinations[to] = ruleDestinations[from];
        ruleKinds[to] = ruleKinds[from];
    }

    private int ruleAction(int place) {
        return ruleKinds[place] >> 4;
    }

    private static boolean inRange(int value, int range) {
        return value >= range >> 5 && value <= (range & 31);
    }

    private boolean matches(int place, int packet) {
        int source = packet >> 7;
        int destination = packet >> 2 & 31;
        int sort = packet & 3;
        return inRange(source, ruleSources[place])
            && inRange(destination, ruleDestinations[place])
            && (ruleKinds[place] >> sort & 1) == 1;
    }

    private int firstMatch(int packet, int start) {
        for (int place = start; place < ruleCount; place++) {
            if (matches(place, packet)) {
                return place;
            }
        }
        return NONE;
    }

    // The packet's action if only the rules from the place start on stood.
    private int packetAction(int packet, int start) {
        int place = firstMatch(packet, start);
        return place == NONE ? defaultAction : ruleAction(place);
    }
}
