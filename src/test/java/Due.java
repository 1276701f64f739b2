/** Counts and prints the answers of one test class that are not as due, with the sentence of the document they test. */
final class Due {
    private String sentence = "";
    private int sentences = 0;
    private int asked = 0;
    private int askedBefore = -1;
    private int wrong = 0;

    /** Begins the test of one sentence, in the document's words; a test that asks nothing counts as wrong. */
    void sentence(String where, String words) {
        sentence(where, words, "");
    }

    /** The same for one of several cases of a sentence. */
    void sentence(String where, String words, String ofThem) {
        endSentence();
        sentence = where + ", \"" + words + "\"" + (ofThem.isEmpty() ? "" : ", " + ofThem) + ": ";
        sentences++;
        askedBefore = asked;
    }

    void is(String call, long got, long want) {
        asked++;
        if (got != want) fail(call + " answered " + got + ", due is " + want);
    }

    void isTrue(String what, boolean holds) {
        asked++;
        if (!holds) fail("does not hold: " + what);
    }

    void end() {
        endSentence();
        String of = sentences == 0 ? "" : " to " + sentences + " sentences";
        System.out.println(asked + " answers" + of + ", " + wrong + " not as due");
        if (wrong != 0 || asked == 0) System.exit(1);
    }

    private void endSentence() {
        if (asked == askedBefore) fail("nothing was asked");
    }

    private void fail(String what) {
        wrong++;
        System.out.println(sentence + what);
    }
}
