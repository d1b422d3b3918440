/** Promise 16: set. */
public final class Promise16SetTest {
    private static final int BAD = SqueezedAnswers.BAD;

    public static void main(String[] args) {
        Check check = new Check("Promise 16");
        chainBounds(check);
        cellBounds(check);
        valueBounds(check);
        whatItHad(check);
        thatCellAlone(check);
        check.finish();
    }

    private static void chainBounds(Check check) {
        check.sentence("A CELL of a CHAIN. BAD: there is no such CHAIN");
        for (Past past : Past.values()) {
            for (int c : Check.outside(past.chains)) {
                check.unchanged("set " + c + ", 0, 1", past, BAD, x -> x.set(c, 0, 1));
            }
        }
    }

    private static void cellBounds(Check check) {
        check.sentence("A CELL of a CHAIN. BAD: there is no such CELL");
        for (Past past : Past.values()) {
            for (int t : Check.outside(past.length)) {
                check.unchanged("set 0, " + t + ", 1", past, BAD, x -> x.set(0, t, 1));
            }
        }
        for (int chains = 1; chains <= 8; chains++) {
            for (int length = 1; length <= 8; length++) {
                SqueezedAnswers x = Check.of("chip " + chains + " " + length + " 1;");
                check.due("the last", x.set(chains - 1, length - 1, 1), 2);
                check.due("behind it", x.set(chains - 1, length, 1), BAD);
                check.due("of the next", x.set(chains, length - 1, 1), BAD);
                check.due("one has changed", x.rule(7), chains * length - 1);
            }
        }
    }

    private static void valueBounds(Check check) {
        check.sentence("becomes v (0 to 2). BAD");
        for (Past past : Past.values()) {
            for (int v : Check.outside(3)) {
                check.unchanged("set 0, 0, " + v, past, BAD, x -> x.set(0, 0, v));
            }
        }
    }

    private static void whatItHad(Check check) {
        check.sentence("becomes v (0 to 2): what it had");
        SqueezedAnswers x = Check.of("chip 2 3 1;");
        for (int was = 0; was < 3; was++) {
            for (int v = 0; v < 3; v++) {
                x.set(1, 2, was);
                check.due("had", x.set(1, 2, v), was);
                check.due("has", x.cell(1, 2, 0), v);
            }
        }
    }

    private static void thatCellAlone(Check check) {
        check.sentence("A CELL becomes v: nothing else changes");
        for (Look look : Look.values()) {
            check.same("set to 2 and back", look, Past.MIXED, x -> x.set(2, 0, 2) + x.set(2, 0, 1), x -> 0);
        }
        for (Look look : new Look[] {Look.FAULTS, Look.IMAGE_0, Look.IMAGE_1, Look.TAPE}) {
            check.same("set", look, Past.MIXED, x -> x.set(2, 0, 0), x -> 0);
        }
        SqueezedAnswers x = Check.of("chip 8 8 1;");
        for (int i = 0; i < 64; i++) {
            x.set(i / 8, i % 8, 1);
            check.due("one more", x.count(1), i + 1);
            check.due("the next has 2 still", x.rule(7), 63 - i);
            check.due("its want stays", x.cell(i / 8, i % 8, 1), 2);
        }
    }
}
