/** What the tests of the project share: comparing answers, naming what is broken, and the exit code. */
final class Check {
    // A program broken at its root would fill the log, and say no more with it.
    private static final int MOST_LINES = 50;

    private final String heading;
    private String sentence = "";
    private int wrong = 0;

    /** The heading of the document, or other name, under which the sentences stand. */
    Check(String heading) {
        this.heading = heading;
    }

    /** The words of the document that the checks after this hold to; a wrong answer names them. */
    void sentence(String words) {
        sentence = ": \"" + words + "\"";
    }

    void due(String call, int got, int want) {
        if (got != want) {
            wrong(call + " answered " + got + ", due is " + want);
        }
    }

    void due(String what, String got, String want) {
        if (!got.equals(want)) {
            wrong(what + " is [" + got + "], due is [" + want + "]");
        }
    }

    void wrong(String what) {
        wrong++;
        if (wrong <= MOST_LINES) {
            System.out.println(heading + sentence + ": " + what);
        }
    }

    boolean sawWrong() {
        return wrong != 0;
    }

    void end() {
        if (wrong != 0) {
            System.out.println(wrong + " wrong");
            System.exit(1);
        }
        System.out.println("all as due");
    }
}
