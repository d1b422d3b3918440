import java.util.function.ToIntFunction;

/** Counts the answers of one test and tells those that are not as due, with the document's sentence that they break. */
final class Check {
    private final String name;
    private String sentence = "";
    private int asked;
    private int wrong;

    Check(String name) {
        this.name = name;
    }

    /** The words of the document to which the answers that follow hold. */
    void sentence(String words) {
        sentence = words;
    }

    void due(String call, long got, long want) {
        asked++;
        if (got != want) {
            wrong++;
            System.out.println(name + " (" + sentence + "): " + call + " answered " + got + ", due is " + want);
        }
    }

    void that(String what, boolean holds) {
        due(what, holds ? 1 : 0, 1);
    }

    /** A call that is refused, or only asks: it answers what is due, and nothing has changed. */
    void unchanged(String call, Past past, int want, ToIntFunction<SqueezedAnswers> ask) {
        due(call + " on " + past, ask.applyAsInt(past.make()), want);
        for (Look look : Look.values()) {
            same(call + " on " + past, look, past, ask, x -> 0);
        }
    }

    /** Of two objects with the same past, one has got one call, one the other: what is looked at is the same. */
    void same(String call, Look look, Past past, ToIntFunction<SqueezedAnswers> one, ToIntFunction<SqueezedAnswers> other) {
        SqueezedAnswers a = past.make();
        SqueezedAnswers b = past.make();
        one.applyAsInt(a);
        other.applyAsInt(b);
        that(call + " leaves " + look, look.at(a).equals(look.at(b)));
    }

    /** Ends the run with exit code 1 if an answer was wrong. */
    void finish() {
        System.out.println(name + ": " + asked + " answers, " + wrong + " wrong");
        if (wrong != 0 || asked == 0) {
            System.exit(1);
        }
    }

    static void feed(SqueezedAnswers x, String text) {
        for (int i = 0; i < text.length(); i++) {
            x.feed(text.charAt(i));
        }
    }

    static int tell(SqueezedAnswers x, String text) {
        feed(x, text);
        return x.text();
    }

    static SqueezedAnswers of(String text) {
        SqueezedAnswers x = new SqueezedAnswers();
        if (tell(x, text) < 0) {
            throw new IllegalStateException(text);
        }
        return x;
    }

    /** Sets a whole chain, a figure for each cell. */
    static void cells(SqueezedAnswers x, int c, String figures) {
        for (int t = 0; t < figures.length(); t++) {
            x.set(c, t, figures.charAt(t) - '0');
        }
    }

    /** Lays what a read takes for one cell. */
    static void triple(SqueezedAnswers x, int k, int from, int c, int t, int v) {
        x.lay(k, from, c);
        x.lay(k, from + 1, t);
        x.lay(k, from + 2, v);
    }

    /** The numbers just below 0 and just above n less 1, and the farthest ones. */
    static int[] outside(int n) {
        return new int[] {Integer.MIN_VALUE, -1, n, n + 1, Integer.MAX_VALUE};
    }
}
