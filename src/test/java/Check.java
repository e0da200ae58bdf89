/** Counts and prints the calls whose answer is not the one that is due. */
final class Check {
    private static int wrong = 0;
    private static long made = 0;

    private Check() {
    }

    static void due(String call, int got, int want) {
        made++;
        if (got != want) {
            tell(call + " answered " + got + ", due is " + want);
        }
    }

    static void due(String call, boolean got, boolean want) {
        made++;
        if (got != want) {
            tell(call + " answered " + got + ", due is " + want);
        }
    }

    static void dueText(String what, String got, String want) {
        made++;
        if (!got.equals(want)) {
            tell(what + " is " + got + ", due is " + want);
        }
    }

    /** Prints the sum and leaves with exit code 1 if an answer was wrong. */
    static void end() {
        System.out.println(made + " answers looked at, " + wrong + " not as due");
        if (wrong != 0 || made == 0) {
            System.exit(1);
        }
    }

    private static void tell(String line) {
        wrong++;
        // A broken promise may show in a hundred thousand answers; the first ones tell enough.
        if (wrong <= 50) {
            System.out.println(line);
        }
    }
}
