/** Counts the answers that are not as due; every test ends with finish(). */
final class Checks {
    private static final int MOST_PRINTED = 50;

    private static int right = 0;
    private static int wrong = 0;
    private static String sentence = "";
    private static int answersBefore = -1;

    private Checks() {
    }

    /** A sentence of the document: what follows, up to the next one, is told as a test of it. */
    static void says(String words) {
        endSentence();
        sentence = words;
        answersBefore = right + wrong;
    }

    private static void endSentence() {
        if (answersBefore == right + wrong) {
            holds("a test of this sentence", false);
        }
        sentence = "";
        answersBefore = -1;
    }

    static void due(String call, long got, long want) {
        if (got == want) {
            right++;
            return;
        }
        tell(call + " answered " + got + ", due is " + want);
    }

    static void same(String what, String got, String want) {
        if (got.equals(want)) {
            right++;
            return;
        }
        tell(what + " is " + got + ", due is " + want);
    }

    static void holds(String claim, boolean held) {
        due(claim, held ? 1 : 0, 1);
    }

    private static void tell(String fault) {
        wrong++;
        if (wrong <= MOST_PRINTED) {
            System.out.println((sentence.isEmpty() ? "" : "\"" + sentence + "\": ") + fault);
        }
    }

    static boolean anyWrong() {
        return wrong > 0;
    }

    static void finish() {
        endSentence();
        System.out.println(right + " answers as due, " + wrong + " not");
        if (wrong > 0 || right == 0) {
            System.exit(1);
        }
    }
}
