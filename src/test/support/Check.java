import java.util.Arrays;

/** Counts the answers that are not as due, and prints each with the sentence of the document it breaks. */
public final class Check {
    private static String sentence = "";
    private static int wrong = 0;
    private static int seen = 0;

    private Check() {
    }

    /** The sentence of the document that the checks from here on are about. */
    public static void sentence(String promise, String words) {
        sentence = promise + ", \"" + words + "\": ";
    }

    public static void due(String what, long got, long want) {
        seen++;
        if (got != want) {
            wrong++;
            System.out.println(sentence + what + " answered " + got + ", due is " + want);
        }
    }

    public static void due(String what, boolean got, boolean want) {
        due(what, got ? 1L : 0L, want ? 1L : 0L);
    }

    public static void due(String what, int[] got, int... want) {
        seen++;
        if (!Arrays.equals(got, want)) {
            wrong++;
            System.out.println(sentence + what + " answered " + Arrays.toString(got) + ", due is " + Arrays.toString(want));
        }
    }

    public static int wrong() {
        return wrong;
    }

    /** To be called last: ends the program with 1 if an answer was wrong. */
    public static void end() {
        System.out.println(wrong == 0
            ? seen + " answers are as due"
            : wrong + " of " + seen + " answers are not as due");
        if (wrong != 0 || seen == 0) {
            System.exit(1);
        }
    }
}
