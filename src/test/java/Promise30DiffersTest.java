/** Promise 30: differs. */
public final class Promise30DiffersTest {
    private static final int BAD = SqueezedAnswers.BAD;
    private static final int STATE = SqueezedAnswers.STATE;

    public static void main(String[] args) {
        Check check = new Check("Promise 30");
        imageBounds(check);
        whatBounds(check);
        thereIsNone(check);
        noChains(check);
        neitherBeingTwo(check);
        neitherHavingTwo(check);
        byItsOwnColumnsAndOut(check);
        cyclesAndOutputs(check);
        changesNothing(check);
        check.finish();
    }

    private static void imageBounds(Check check) {
        check.sentence("IMAGE k. BAD");
        for (Past past : Past.values()) {
            for (int k : Check.outside(2)) {
                check.unchanged("differs " + k + ", 0", past, BAD, x -> x.differs(k, 0));
                check.unchanged("differs " + k + ", 1", past, BAD, x -> x.differs(k, 1));
            }
        }
    }

    private static void whatBounds(Check check) {
        check.sentence("(what 0), (1). BAD, ahead of STATE");
        for (Past past : Past.values()) {
            for (int what : Check.outside(2)) {
                check.unchanged("differs 0, " + what, past, BAD, x -> x.differs(0, what));
                check.unchanged("differs 1, " + what, past, BAD, x -> x.differs(1, what));
            }
        }
    }

    private static void thereIsNone(Check check) {
        check.sentence("STATE: there is none");
        for (int what = 0; what < 2; what++) {
            int asked = what;
            check.unchanged("differs 0, " + what, Past.FRESH, STATE, x -> x.differs(0, asked));
            check.unchanged("differs 1, " + what, Past.FRESH, STATE, x -> x.differs(1, asked));
            check.unchanged("differs 1, " + what, Past.SMALLEST, STATE, x -> x.differs(1, asked));
            check.unchanged("differs 0, " + what, Past.SMALLEST, 1, x -> x.differs(0, asked));
            SqueezedAnswers x = Past.MIXED.make();
            x.end(0);
            Check.tell(x, "chip 3 4 2;");
            check.due("a text has taken it", x.differs(0, what), STATE);
        }
    }

    private static void noChains(Check check) {
        check.sentence("in how many: of no CHAINS none");
        SqueezedAnswers x = new SqueezedAnswers();
        x.keep(0);
        check.due("seen", x.differs(0, 0), 0);
        check.due("cells", x.differs(0, 1), 0);
    }

    private static void neitherBeingTwo(Check check) {
        check.sentence("what is SEEN differs, neither being 2 (what 0)");
        for (int then = 0; then < 3; then++) {
            for (int now = 0; now < 3; now++) {
                SqueezedAnswers x = Check.of("chip 1 1 1;column 0 0;");
                x.set(0, 0, then);
                x.keep(1);
                x.set(0, 0, now);
                check.due(then + " then, " + now + " now", x.differs(1, 0), then + now == 1 ? 1 : 0);
            }
        }
    }

    private static void neitherHavingTwo(Check check) {
        check.sentence("how many CELLS differ, neither having 2 (1)");
        for (int then = 0; then < 3; then++) {
            for (int now = 0; now < 3; now++) {
                SqueezedAnswers x = Check.of("chip 8 8 1;out 7;");
                x.set(7, 7, then);
                x.keep(1);
                x.set(7, 7, now);
                check.due(then + " then, " + now + " now", x.differs(1, 1), then + now == 1 ? 1 : 0);
                check.due("it is not seen", x.differs(1, 0), 0);
            }
        }
    }

    private static void byItsOwnColumnsAndOut(Check check) {
        check.sentence("Against IMAGE k (by its own COLUMNS, OUT)");
        SqueezedAnswers x = Check.of("chip 3 2 2;column 0 0;column 1 1;column 2 0 1;");
        Check.cells(x, 0, "11");
        Check.cells(x, 1, "00");
        Check.cells(x, 2, "01");
        x.keep(1);
        check.due("nothing", x.differs(1, 0), 0);
        x.out(4);
        check.due("by its own OUT", x.differs(1, 0), 2);
        x.out(0);
        x.put(0, 0);
        check.due("by its own COLUMNS", x.differs(1, 0), 2);
        check.due("cells are the same", x.differs(1, 1), 0);
        x.keep(0);
        x.back(1);
        check.due("and the other way round", x.differs(0, 0), 2);
    }

    private static void cyclesAndOutputs(Check check) {
        check.sentence("in how many CYCLES, OUTPUTS; how many CELLS");
        for (int length = 1; length <= 8; length++) {
            for (int outputs = 1; outputs <= 8; outputs++) {
                SqueezedAnswers x = Check.of("chip 2 " + length + " " + outputs + ";");
                x.put(1, (1 << outputs) - 1);
                Check.cells(x, 1, "0".repeat(length));
                x.keep(0);
                Check.cells(x, 1, "1".repeat(length));
                check.due("all cycles, all outputs", x.differs(0, 0), length * outputs);
                check.due("all cells", x.differs(0, 1), length);
                x.set(1, length - 1, 0);
                check.due("but the last cycle", x.differs(0, 0), (length - 1) * outputs);
                check.due("but the last cell", x.differs(0, 1), length - 1);
            }
        }
    }

    private static void changesNothing(Check check) {
        check.sentence("differs: asking changes nothing");
        for (Past past : Past.values()) {
            for (int what = 0; what < 2; what++) {
                int asked = what;
                int differs = past.make().differs(0, what);
                check.unchanged("differs 0, " + what, past, differs, x -> x.differs(0, asked));
            }
        }
    }
}
