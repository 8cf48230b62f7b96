/** Counts the answers that are not the ones due, and ends the test with them. */
final class Check {
    private static int asked = 0;
    private static int wrong = 0;

    private Check() {
    }

    static void due(String call, long got, long want) {
        asked++;
        if (got != want) {
            wrong++;
            System.out.println(call + " answered " + got + ", due is " + want);
        }
    }

    static void holds(String claim, boolean so) {
        asked++;
        if (!so) {
            wrong++;
            System.out.println("does not hold: " + claim);
        }
    }

    static void end() {
        System.out.println(wrong == 0
            ? asked + " checks, all as due"
            : wrong + " of " + asked + " checks are not as due");
        if (asked == 0 || wrong != 0) {
            System.exit(1);
        }
    }
}
