/** Counts and prints the answers that are not the ones that are due. */
final class Check {
    private static final int MOST_PRINTED = 40;
    private static int wrong = 0;
    private static String sentence = "";

    private Check() {
    }

    /** What follows tests these words of the document, which stand under this heading. */
    static void sentence(String heading, String words) {
        sentence = heading + ", '" + words + "': ";
    }

    static void due(String call, long got, long want) {
        if (got != want) {
            fail(call + " answered " + got + ", due is " + want);
        }
    }

    static void due(String call, boolean got, boolean want) {
        if (got != want) {
            fail(call + " answered " + got + ", due is " + want);
        }
    }

    static void due(String call, String got, String want) {
        if (!got.equals(want)) {
            fail(call + " made " + got + ", due is " + want);
        }
    }

    static void fail(String what) {
        wrong++;
        if (wrong <= MOST_PRINTED) {
            System.out.println(sentence + what);
        }
    }

    /** Ends the program with exit code 1 if something was wrong. */
    static void end() {
        System.out.println(wrong == 0 ? "all answers are as due" : wrong + " answers are not as due");
        if (wrong != 0) {
            System.exit(1);
        }
    }
}
