/** Counts the answers of one test and tells those that are not as due. */
final class Check {
    private final String name;
    private int asked;
    private int wrong;

    Check(String name) {
        this.name = name;
    }

    void due(String call, long got, long want) {
        asked++;
        if (got != want) {
            wrong++;
            System.out.println(name + ": " + call + " answered " + got + ", due is " + want);
        }
    }

    void that(String what, boolean holds) {
        due(what, holds ? 1 : 0, 1);
    }

    /** Ends the run with exit code 1 if an answer was wrong. */
    void finish() {
        System.out.println(name + ": " + asked + " answers, " + wrong + " wrong");
        if (wrong != 0 || asked == 0) {
            System.exit(1);
        }
    }

    static void feed(SqueezedAnswers x, String text) {
        for (int i = 0; i < text.length(); i++) {
            x.feed(text.charAt(i));
        }
    }

    static int tell(SqueezedAnswers x, String text) {
        feed(x, text);
        return x.text();
    }

    static SqueezedAnswers of(String text) {
        SqueezedAnswers x = new SqueezedAnswers();
        if (tell(x, text) < 0) {
            throw new IllegalStateException(text);
        }
        return x;
    }

    /** Sets a whole chain, a figure for each cell. */
    static void cells(SqueezedAnswers x, int c, String figures) {
        for (int t = 0; t < figures.length(); t++) {
            x.set(c, t, figures.charAt(t) - '0');
        }
    }
}
