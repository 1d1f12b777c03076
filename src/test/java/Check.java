/** Compares answers with those that are due, and tells the wrong ones. */
final class Check {
    /** A call that may throw. */
    interface Call {
        long answer();
    }

    private static int wrong = 0;
    private static int seen = 0;
    private static int sentences = 0;
    private static String sentence = "";

    private Check() {
    }

    /** The sentence of the document that the next answers come from. */
    static void sentence(String words) {
        sentences++;
        sentence = words + ": ";
    }

    static void due(String call, long got, long want) {
        seen++;
        if (got != want) {
            tell(call + " answered " + got + ", due is " + want);
        }
    }

    static void due(String call, boolean got, boolean want) {
        due(call, got ? 1 : 0, want ? 1 : 0);
    }

    static void due(String call, String got, String want) {
        seen++;
        if (!got.equals(want)) {
            tell(call + " answered " + got + ", due is " + want);
        }
    }

    /** That a call throws just this exception. */
    static void dueThrow(String call, Class<? extends RuntimeException> want, Call tried) {
        seen++;
        try {
            tell(call + " answered " + tried.answer() + ", due is throws." + want.getSimpleName());
        } catch (RuntimeException e) {
            if (e.getClass() != want) {
                tell(call + " threw " + e + ", due is " + want.getSimpleName());
            }
        }
    }

    private static void tell(String line) {
        wrong++;
        if (wrong <= 50) {
            System.out.println(sentence + line);
        }
    }

    static void finish() {
        String of = sentences == 0 ? "" : " of " + sentences + " sentences";
        System.out.println(wrong == 0 ? seen + " answers" + of + " are as due" : wrong + " answers are not as due");
        if (wrong != 0) {
            System.exit(1);
        }
    }
}
