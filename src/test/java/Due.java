/** Compares answers with those that are due, and ends a test with exit code 1 if one was wrong. */
final class Due {
    private static int asked = 0;
    private static int wrong = 0;
    private static int sentences = 0;
    private static String sentence = "";
    private static int askedBefore = 0;

    private Due() {
    }

    /** Begins the test of one sentence of the document; the one before it must have asked something. */
    static void sentence(String words) {
        endSentence();
        sentences++;
        sentence = words;
        askedBefore = asked;
    }

    static void is(String call, long got, long want) {
        asked++;
        if (got != want) {
            wrong++;
            String where = sentence.isEmpty() ? "" : "[" + sentence + "] ";
            System.out.println(where + call + " answered " + got + ", due is " + want);
        }
    }

    static void is(String call, boolean got, boolean want) {
        is(call, got ? 1 : 0, want ? 1 : 0);
    }

    static void end() {
        endSentence();
        String on = sentences == 0 ? "" : " on " + sentences + " sentences";
        System.out.println(asked + " answers" + on + ", " + wrong + " not as due");
        if (wrong != 0 || asked == 0) {
            System.exit(1);
        }
    }

    private static void endSentence() {
        if (!sentence.isEmpty() && asked == askedBefore) {
            wrong++;
            System.out.println("[" + sentence + "] nothing was asked");
        }
    }
}
