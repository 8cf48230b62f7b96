/**
 * Long mixed runs of calls, each answer held against the Reference. The runs
 * are the same each time: their numbers come from a fixed sequence.
 */
public final class ReferenceRunsTest {
    private static final int RUNS = 60;
    private static final int[] ODD = {Integer.MIN_VALUE, -33, -2, -1, 4, 12, 13, 32, 64,
        1023, 1024, Integer.MAX_VALUE};

    private static long state = 20261115L;

    public static void main(String[] args) {
        for (int run = 1; run <= RUNS; run++) {
            mixedRun(run);
        }
        for (int run = 1; run <= 4; run++) {
            everyPacket(run);
        }
        Check.end();
    }

    private static int below(int bound) {
        state = state * 6364136223846793005L + 1442695040888963407L;
        return (int) ((state >>> 33) % bound);
    }

    private static void mixedRun(int run) {
        Twin twin = new Twin("run " + run);
        // Runs differ in how wide the rules are: wide ones make dead and idle
        // rules common, narrow ones leave many packets unmatched.
        int width = 1 + run % 32;
        while (twin.callsLeft() > 100) {   // room for a round and the last look
            change(twin, width);
            if (below(6) == 0) {
                twin.lookAtAll();
            } else {
                ask(twin);
            }
        }
        twin.lookAtAll();
    }

    private static void change(Twin twin, int width) {
        switch (below(8)) {
            case 0 -> twin.remove(place(twin));
            case 1, 2 -> twin.shift(place(twin), place(twin));
            case 3 -> twin.otherwise(below(4) == 0 ? odd() : below(4));
            case 4 -> twin.insert(below(3) == 0 ? odd() : place(twin),
                below(3) == 0 ? odd() : rangeOf(width),
                below(3) == 0 ? odd() : rangeOf(width),
                below(3) == 0 ? odd() : below(64));
            default -> twin.insert(below(twin.size() + 1), rangeOf(width), rangeOf(width),
                16 * below(2 + below(3)) + (below(2) == 0 ? 15 : below(16)));
        }
    }

    private static void ask(Twin twin) {
        switch (below(6)) {
            case 0 -> twin.decide(field(32), field(32), field(4));
            case 1 -> twin.action(field(32), field(32), field(4));
            case 2 -> twin.decided(place(twin));
            case 3 -> twin.having(below(4) == 0 ? odd() : below(4));
            case 4 -> twin.use(place(twin));
            default -> twin.witness(place(twin));
        }
    }

    /** Fresh twins, each for a part of the packets, so that none has too many calls. */
    private static void everyPacket(int run) {
        long start = state;
        for (int part = 0; part < 32; part++) {
            state = start;
            Twin twin = new Twin("every packet " + run + ", source " + part);
            for (int count = 0; count < 12; count++) {
                twin.insert(below(count + 1), rangeOf(8 * run), rangeOf(8 * run), below(64));
            }
            twin.otherwise(run);
            for (int rest = 0; rest < 128; rest++) {
                twin.decide(part, rest / 4, rest % 4);
                twin.action(part, rest / 4, rest % 4);
            }
        }
    }

    private static int odd() {
        return ODD[below(ODD.length)];
    }

    private static int place(Twin twin) {
        return below(10) == 0 ? odd() : below(twin.size() + 2) - 1;
    }

    private static int field(int size) {
        return below(20) == 0 ? odd() : below(size);
    }

    private static int rangeOf(int width) {
        if (below(12) == 0) {
            return below(1024);
        }
        int first = below(32);
        return 32 * first + Math.min(31, first + below(width));
    }
}
