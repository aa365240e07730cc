/** Counts and prints every answer that is not the one that is due. */
final class Check {
    private final String test;
    private int asked = 0;
    private int wrong = 0;

    Check(String test) {
        this.test = test;
    }

    void due(String call, long got, long want) {
        asked++;
        if (got != want) {
            wrong++;
            System.out.println(test + ": " + call + " answered " + got + ", due is " + want);
        }
    }

    void holds(String what, boolean so) {
        due(what, so ? 1 : 0, 1);
    }

    int wrong() {
        return wrong;
    }

    /** Ends the program: with exit code 1 if an answer was wrong, or if none was asked for. */
    void end() {
        System.out.println(test + ": " + asked + " answers, " + wrong + " not as due");
        System.exit(wrong != 0 || asked == 0 ? 1 : 0);
    }
}
