/** Counts the answers that are not as due, and prints each. */
public final class Check {
    private static int wrong = 0;
    private static int seen = 0;

    private Check() {
    }

    public static void due(String what, long got, long want) {
        seen++;
        if (got != want) {
            wrong++;
            System.out.println(what + " answered " + got + ", due is " + want);
        }
    }

    public static void due(String what, boolean got, boolean want) {
        due(what, got ? 1L : 0L, want ? 1L : 0L);
    }

    public static int wrong() {
        return wrong;
    }

    /** To be called last: ends the program with 1 if an answer was wrong. */
    public static void end() {
        System.out.println(wrong == 0 ? seen + " answers are as due" : wrong + " of " + seen + " answers are not as due");
        if (wrong != 0 || seen == 0) {
            System.exit(1);
        }
    }
}
