/** Counts and prints every answer that is not the one that is due. */
final class Check {
    private final String test;
    private String sentence = "";
    private int sentences = 0;
    private int asked = 0;
    private int askedOfSentence = 0;
    private int wrong = 0;

    Check(String test) {
        this.test = test;
    }

    /** What is asked from here on is asked of this sentence of the document. */
    void says(String words) {
        barren();
        sentence = words;
        sentences++;
        askedOfSentence = 0;
    }

    void due(String call, long got, long want) {
        same(call, Long.toString(got), Long.toString(want));
    }

    void same(String call, String got, String want) {
        asked++;
        askedOfSentence++;
        if (!got.equals(want)) {
            wrong++;
            String of = sentence.isEmpty() ? "" : " [" + sentence + "]";
            System.out.println(test + of + ": " + call + " answered " + got + ", due is " + want);
        }
    }

    void holds(String what, boolean so) {
        due(what, so ? 1 : 0, 1);
    }

    int wrong() {
        return wrong;
    }

    /** A sentence of which nothing was asked is not tested, whatever the others answered. */
    private void barren() {
        if (sentences > 0 && askedOfSentence == 0) {
            holds("nothing was asked", false);
        }
    }

    /** Ends the program: with exit code 1 if an answer was wrong, or if none was asked for. */
    void end() {
        barren();
        String of = sentences == 0 ? "" : " of " + sentences + " sentences";
        System.out.println(test + ": " + asked + " answers" + of + ", " + wrong + " not as due");
        System.exit(wrong != 0 || asked == 0 ? 1 : 0);
    }
}
