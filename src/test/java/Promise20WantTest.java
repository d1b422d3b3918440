/** Promise 20: want. */
public final class Promise20WantTest {
    private static final int BAD = SqueezedAnswers.BAD;

    public static void main(String[] args) {
        Check check = new Check("Promise 20");
        chainBounds(check);
        cellBounds(check);
        valueBounds(check);
        whatItWas(check);
        thatWantAlone(check);
        check.finish();
    }

    private static void chainBounds(Check check) {
        check.sentence("WANT of a CELL. BAD: there is no such CHAIN");
        for (Past past : Past.values()) {
            for (int c : Check.outside(past.chains)) {
                check.unchanged("want " + c + ", 0, 1", past, BAD, x -> x.want(c, 0, 1));
            }
        }
    }

    private static void cellBounds(Check check) {
        check.sentence("WANT of a CELL. BAD: there is no such CELL");
        for (Past past : Past.values()) {
            for (int t : Check.outside(past.length)) {
                check.unchanged("want 0, " + t + ", 1", past, BAD, x -> x.want(0, t, 1));
            }
        }
        for (int chains = 1; chains <= 8; chains++) {
            for (int length = 1; length <= 8; length++) {
                SqueezedAnswers x = Check.of("chip " + chains + " " + length + " 1;");
                check.due("the last", x.want(chains - 1, length - 1, 1), 2);
                check.due("behind it", x.want(chains - 1, length, 1), BAD);
                check.due("of the next", x.want(chains, length - 1, 1), BAD);
                check.due("one has changed", x.count(4), 1);
            }
        }
    }

    private static void valueBounds(Check check) {
        check.sentence("becomes v (0 to 2). BAD");
        for (Past past : Past.values()) {
            for (int v : Check.outside(3)) {
                check.unchanged("want 0, 0, " + v, past, BAD, x -> x.want(0, 0, v));
            }
        }
    }

    private static void whatItWas(Check check) {
        check.sentence("becomes v (0 to 2): what it was");
        SqueezedAnswers x = Check.of("chip 2 3 1;");
        for (int was = 0; was < 3; was++) {
            for (int v = 0; v < 3; v++) {
                x.want(1, 2, was);
                check.due("was", x.want(1, 2, v), was);
                check.due("is", x.cell(1, 2, 1), v);
            }
        }
    }

    private static void thatWantAlone(Check check) {
        check.sentence("WANT of a CELL becomes v: nothing else changes");
        for (Look look : Look.values()) {
            check.same("want and back", look, Past.MIXED, x -> x.want(1, 1, 0) + x.want(1, 1, 1), x -> 0);
        }
        for (Look look : Look.values()) {
            if (look != Look.STATE) {
                check.same("want", look, Past.MIXED, x -> x.want(2, 0, 1), x -> 0);
            }
        }
        SqueezedAnswers x = Check.of("chip 8 8 1;");
        for (int i = 0; i < 64; i++) {
            x.want(i / 8, i % 8, i % 2);
            check.due("one more", x.count(4), i + 1);
            check.due("the cell stays", x.cell(i / 8, i % 8, 0), 2);
        }
    }
}
