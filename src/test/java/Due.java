/** Counts and prints the answers that are not the ones due; a boolean counts 1 or 0. */
final class Due {
    private int wrong = 0;
    private int asked = 0;
    private String sentence = "";
    private int askedBefore = 0;

    /** What is asked from here on is asked about these words of the document. */
    void sentence(String words) {
        endSentence();
        sentence = words;
        askedBefore = asked;
    }

    /** A sentence about which nothing was asked is not tested. */
    private void endSentence() {
        if (!sentence.isEmpty() && asked == askedBefore) {
            wrong++;
            System.out.println("nothing was asked about: " + sentence);
        }
        sentence = "";
    }

    void is(String call, long got, long want) {
        if (answered(got == want)) {
            tell(call, "" + got, "" + want);
        }
    }

    void is(String call, boolean got, boolean want) {
        is(call, got ? 1L : 0L, want ? 1L : 0L);
    }

    void is(String call, String got, String want) {
        if (answered(got.equals(want))) {
            tell(call, got, want);
        }
    }

    void yes(String call, boolean got) {
        is(call, got, true);
    }

    void no(String call, boolean got) {
        is(call, got, false);
    }

    boolean allRight() {
        return wrong == 0;
    }

    /** Whether there is something to tell. */
    private boolean answered(boolean right) {
        asked++;
        wrong += right ? 0 : 1;
        return !right;
    }

    private void tell(String call, String got, String want) {
        String about = sentence.isEmpty() ? "" : "(" + sentence + ") ";
        System.out.println(about + call + " answered " + got + ", due is " + want);
    }

    void end(String test) {
        endSentence();
        System.out.println(test + ": " + Math.max(0, asked - wrong) + " of " + asked + " answers are as due");
        if (wrong != 0 || asked == 0) {
            System.exit(1);
        }
    }
}
