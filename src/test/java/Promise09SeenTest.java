/** Promise 9: seen. */
public final class Promise09SeenTest {
    private static final int BAD = SqueezedAnswers.BAD;

    public static void main(String[] args) {
        Check check = new Check("Promise 9");
        cycleBounds(check);
        outputBounds(check);
        addedModuloTwo(check);
        twoIfAnyHasTwo(check);
        outIsNotAdded(check);
        goesToIt(check);
        nothingGoesToIt(check);
        check.finish();
    }

    private static void cycleBounds(Check check) {
        check.sentence("in a CYCLE. BAD");
        for (Past past : Past.values()) {
            for (int t : Check.outside(past.length)) {
                check.unchanged("seen " + t + ", 0", past, BAD, x -> x.seen(t, 0));
            }
        }
    }

    private static void outputBounds(Check check) {
        check.sentence("at an OUTPUT. BAD");
        for (Past past : Past.values()) {
            for (int o : Check.outside(past.outputs)) {
                check.unchanged("seen 0, " + o, past, BAD, x -> x.seen(0, o));
            }
        }
        for (int length = 1; length <= 8; length++) {
            for (int outputs = 1; outputs <= 8; outputs++) {
                SqueezedAnswers x = Check.of("chip 1 " + length + " " + outputs + ";column 0 " + (outputs - 1)
                    + ";cell 0 " + (length - 1) + " 1;");
                check.due("the last", x.seen(length - 1, outputs - 1), 1);
                check.due("behind the last cycle", x.seen(length, outputs - 1), BAD);
                check.due("behind the last output", x.seen(length - 1, outputs), BAD);
            }
        }
    }

    private static void addedModuloTwo(Check check) {
        check.sentence("the CELLS, added modulo 2");
        SqueezedAnswers x = Check.of("chip 8 1 1;");
        for (int c = 0; c < 8; c++) {
            x.set(c, 0, 0);
            x.put(c, 1);
        }
        check.due("no ones", x.seen(0, 0), 0);
        for (int c = 0; c < 8; c++) {
            x.set(c, 0, 1);
            check.due("ones up to " + c, x.seen(0, 0), (c + 1) % 2);
        }
    }

    private static void twoIfAnyHasTwo(Check check) {
        check.sentence("2, if any of them has 2");
        for (int unknown = 0; unknown < 8; unknown++) {
            SqueezedAnswers x = Check.of("chip 8 1 1;");
            for (int c = 0; c < 8; c++) {
                x.put(c, 1);
                x.set(c, 0, c == unknown ? 2 : 1);
            }
            check.due("2 in " + unknown, x.seen(0, 0), 2);
            x.out(1 << unknown);
            check.due("seven ones", x.seen(0, 0), 1);
        }
        SqueezedAnswers two = Check.of("chip 2 1 1;column 0 0;column 1 0;");
        check.due("2 and 2", two.seen(0, 0), 2);
    }

    private static void outIsNotAdded(Check check) {
        check.sentence("of all CHAINS that are not OUT");
        SqueezedAnswers x = Check.of("chip 3 2 2;column 0 0;column 1 1;column 2 0 1;");
        Check.cells(x, 0, "12");
        Check.cells(x, 1, "01");
        Check.cells(x, 2, "10");
        check.due("1 and 1", x.seen(0, 0), 0);
        check.due("2 and 0", x.seen(1, 0), 2);
        x.out(1);
        check.due("only 1", x.seen(0, 0), 1);
        check.due("only 0", x.seen(1, 0), 0);
        x.out(7);
        check.due("all are out", x.seen(0, 0), 0);
        check.due("all are out in cycle 1", x.seen(1, 0), 0);
    }

    private static void goesToIt(Check check) {
        check.sentence("and go to it");
        SqueezedAnswers x = Check.of("chip 3 2 2;column 0 0;column 1 1;column 2 0 1;");
        Check.cells(x, 0, "12");
        Check.cells(x, 1, "01");
        Check.cells(x, 2, "10");
        check.due("0 and 1 at the second", x.seen(0, 1), 1);
        check.due("the 2 goes to the first alone", x.seen(1, 1), 1);
        x.put(0, 2);
        check.due("the 2 goes to the second", x.seen(1, 1), 2);
        check.due("and not to the first", x.seen(1, 0), 0);
    }

    private static void nothingGoesToIt(Check check) {
        check.sentence("of all CHAINS that go to it: none does");
        SqueezedAnswers x = Check.of("chip 8 8 8;");
        for (int t = 0; t < 8; t++) {
            for (int o = 0; o < 8; o++) {
                check.due("seen", x.seen(t, o), 0);
            }
        }
    }
}
