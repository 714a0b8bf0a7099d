/** Compares answers with what is due and ends the test with exit code 1 if one was wrong. */
final class Check {
    private static final int MOST_TOLD = 40;
    private int wrong = 0;
    private String sentence = "";

    /** The sentence of the document that the following calls test; it is told with the first wrong one. */
    void begin(String newSentence) {
        sentence = newSentence;
    }

    void due(String call, long got, long want) {
        if (got != want) {
            tell(call + " answered " + got + ", due is " + want);
        }
    }

    void due(String call, boolean got, boolean want) {
        if (got != want) {
            tell(call + " answered " + got + ", due is " + want);
        }
    }

    void due(String call, String got, String want) {
        if (!got.equals(want)) {
            tell(call + " gave " + got + ", due is " + want);
        }
    }

    void finish() {
        System.out.println(wrong == 0 ? "all answers are as due" : wrong + " answers are not as due");
        if (wrong != 0) {
            System.exit(1);
        }
    }

    int wrongSoFar() {
        return wrong;
    }

    private void tell(String text) {
        wrong++;
        if (!sentence.isEmpty()) {
            System.out.println("\"" + sentence + "\" does not hold:");
            sentence = "";
        }
        if (wrong <= MOST_TOLD) {
            System.out.println("  " + text);
        }
    }
}
