/** Counts the answers of a test that are not as due, and tells each one with its sentence. */
final class Due {
    private final String test;
    private String sentence = "";
    private int sentences = 0;
    private int answersOfSentence = 0;
    private int answers = 0;
    private int wrong = 0;

    Due(String test) {
        this.test = test;
    }

    /** The answers that follow are due by this sentence of the document. */
    void sentence(String text) {
        endSentence();
        sentence = text;
        sentences++;
    }

    void is(String call, long got, long want) {
        answers++;
        answersOfSentence++;
        if (got != want) {
            tell(call + " answered " + got + ", due is " + want);
        }
    }

    void is(String call, boolean got, boolean want) {
        is(call, got ? 1L : 0L, want ? 1L : 0L);
    }

    void ringIs(String what, CycleRows x, int i, int... keys) {
        is(what + ": size(" + i + ")", x.size(i), keys.length);
        for (int k = 0; k < keys.length; k++) {
            is(what + ": ring(" + i + ", " + k + ", 0)", x.ring(i, k, 0), keys[k]);
        }
        is(what + ": ring behind its end", x.ring(i, keys.length, 0), CycleRows.NONE);
    }

    void metIs(String what, CycleRows x, int... keys) {
        for (int k = 0; k < keys.length; k++) {
            is(what + ": met(" + k + ")", x.met(k), keys[k]);
        }
        is(what + ": met behind its end", x.met(keys.length), CycleRows.NONE);
    }

    void tell(String fault) {
        wrong++;
        if (wrong <= 50) {
            System.out.println(test + ": " + (sentence.isEmpty() ? "" : sentence + " -- ") + fault);
        }
    }

    /** Ends the test: with exit code 1 if an answer was wrong, or if none was asked for. */
    void end() {
        endSentence();
        System.out.println(test + ": " + (sentences == 0 ? "" : sentences + " sentences, ")
                + answers + " answers, " + wrong + " not as due");
        if (wrong != 0 || answers == 0) {
            System.exit(1);
        }
    }

    private void endSentence() {
        if (sentences > 0 && answersOfSentence == 0) {
            tell("no answer was asked for");
        }
        answersOfSentence = 0;
    }
}
