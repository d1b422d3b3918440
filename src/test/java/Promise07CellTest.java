/** Promise 7: cell, and when a cell is WATCHED. */
public final class Promise07CellTest {
    private static final int BAD = SqueezedAnswers.BAD;

    public static void main(String[] args) {
        Check check = new Check("Promise 7");
        chainBounds(check);
        cellBounds(check);
        whatBounds(check);
        whatItHas(check);
        watchedHasNotTwo(check);
        watchedIsNotOut(check);
        watchedAtAnyOutput(check);
        watchedInItsCycle(check);
        check.finish();
    }

    private static void chainBounds(Check check) {
        check.sentence("a CELL of a CHAIN. BAD: there is no such CHAIN");
        for (Past past : Past.values()) {
            for (int c : Check.outside(past.chains)) {
                for (int what = 0; what < 3; what++) {
                    int asked = what;
                    check.unchanged("cell " + c + ", 0, " + what, past, BAD, x -> x.cell(c, 0, asked));
                }
            }
        }
    }

    private static void cellBounds(Check check) {
        check.sentence("a CELL of a CHAIN. BAD: there is no such CELL");
        for (Past past : Past.values()) {
            for (int t : Check.outside(past.length)) {
                for (int what = 0; what < 3; what++) {
                    int asked = what;
                    check.unchanged("cell 0, " + t + ", " + what, past, BAD, x -> x.cell(0, t, asked));
                }
            }
        }
        for (int chains = 1; chains <= 8; chains++) {
            for (int length = 1; length <= 8; length++) {
                SqueezedAnswers x = Check.of("chip " + chains + " " + length + " 1;");
                check.due("the last", x.cell(chains - 1, length - 1, 0), 2);
                check.due("behind it", x.cell(chains - 1, length, 0), BAD);
                check.due("of the next", x.cell(chains, length - 1, 0), BAD);
            }
        }
    }

    private static void whatBounds(Check check) {
        check.sentence("what 0, 1, 2. BAD");
        for (Past past : Past.values()) {
            for (int what : Check.outside(3)) {
                check.unchanged("cell 0, 0, " + what, past, BAD, x -> x.cell(0, 0, what));
            }
        }
        check.unchanged("what 0", Past.MIXED, 1, x -> x.cell(0, 0, 0));
        check.unchanged("what 1", Past.MIXED, 0, x -> x.cell(2, 3, 1));
        check.unchanged("what 2", Past.MIXED, 0, x -> x.cell(2, 3, 2));
    }

    private static void whatItHas(Check check) {
        check.sentence("What a CELL of a CHAIN has (what 0), its WANT (1)");
        SqueezedAnswers x = Check.of("chip 2 3 1;");
        for (int has = 0; has < 3; has++) {
            for (int want = 0; want < 3; want++) {
                x.set(1, 2, has);
                x.want(1, 2, want);
                check.due("has", x.cell(1, 2, 0), has);
                check.due("want", x.cell(1, 2, 1), want);
                check.due("another has", x.cell(0, 2, 0), 2);
                check.due("another's want", x.cell(1, 1, 1), 2);
            }
        }
    }

    private static void watchedHasNotTwo(Check check) {
        check.sentence("WATCHED is a CELL that has not 2");
        SqueezedAnswers x = Check.of("chip 1 1 1;column 0 0;");
        int[] watched = {1, 1, 0};
        for (int v = 0; v < 3; v++) {
            x.set(0, 0, v);
            check.due("watched with " + v, x.cell(0, 0, 2), watched[v]);
        }
    }

    private static void watchedIsNotOut(Check check) {
        check.sentence("if its CHAIN is not OUT");
        SqueezedAnswers x = Check.of("chip 2 1 1;column 0 0;column 1 0;cell 0 0 1;cell 1 0 0;");
        for (int out = 0; out < 4; out++) {
            x.out(out);
            check.due("first, out " + out, x.cell(0, 0, 2), 1 - (out & 1));
            check.due("second, out " + out, x.cell(1, 0, 2), 1 - (out >> 1));
        }
    }

    private static void watchedAtAnyOutput(Check check) {
        check.sentence("at any OUTPUT to which that goes, not 2 is SEEN");
        SqueezedAnswers x = Check.of("chip 3 1 3;column 0 0 1;column 1 0;column 2 1;cell 0 0 1;cell 1 0 0;cell 2 0 0;");
        check.due("at both", x.cell(0, 0, 2), 1);
        x.set(1, 0, 2);
        check.due("at the second", x.cell(0, 0, 2), 1);
        x.set(2, 0, 2);
        check.due("at none", x.cell(0, 0, 2), 0);
        x.set(1, 0, 1);
        check.due("at the first", x.cell(0, 0, 2), 1);
        x.set(1, 0, 2);
        x.out(4);
        check.due("what is out does not count", x.cell(0, 0, 2), 1);
        x.out(0);
        x.put(0, 4);
        check.due("at one of its own", x.cell(0, 0, 2), 1);
        x.put(0, 0);
        check.due("it goes nowhere", x.cell(0, 0, 2), 0);
    }

    private static void watchedInItsCycle(Check check) {
        check.sentence("in its CYCLE");
        SqueezedAnswers x = Check.of("chip 2 2 1;column 0 0;column 1 0;cell 0 0 1;cell 0 1 1;cell 1 0 1;");
        check.due("cycle 0", x.cell(0, 0, 2), 1);
        check.due("cycle 1", x.cell(0, 1, 2), 0);
    }
}
