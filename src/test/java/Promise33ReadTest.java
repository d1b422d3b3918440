/** Promise 33: read. */
public final class Promise33ReadTest {
    private static final int BAD = SqueezedAnswers.BAD;

    public static void main(String[] args) {
        Check check = new Check("Promise 33");
        sheetBounds(check);
        laneBounds(check);
        timesBounds(check);
        noneAtAll(check);
        index(check);
        farOff(check);
        nothingAndCast(check);
        oneBehindAnother(check);
        wholeOnesAheadCame(check);
        refusedBySet(check);
        firstMet(check);
        cellsAlone(check);
        check.finish();
    }

    private static void sheetBounds(Check check) {
        check.sentence("BAD: k");
        for (Past past : Past.values()) {
            for (int k : Check.outside(4)) {
                check.unchanged("read " + k + ", 0, 0, 1", past, BAD, x -> x.read(k, 0, 0, 1));
            }
        }
        for (int k = 0; k < 4; k++) {
            SqueezedAnswers x = Check.of("chip 1 1 1;");
            x.sheet(k, 0, 3);
            check.due("read " + k, x.read(k, 0, 0, 1), 1);
        }
    }

    private static void laneBounds(Check check) {
        check.sentence("BAD: lane");
        for (Past past : Past.values()) {
            for (int lane : Check.outside(3)) {
                check.unchanged("read 0, " + lane + ", 0, 1", past, BAD, x -> x.read(0, lane, 0, 1));
                check.unchanged("read 3, " + lane + ", 0, 0", past, BAD, x -> x.read(3, lane, 0, 0));
            }
        }
    }

    private static void timesBounds(Check check) {
        check.sentence("n (0 to 13) times. BAD: n");
        for (Past past : Past.values()) {
            for (int n : Check.outside(14)) {
                check.unchanged("read 0, 0, 0, " + n, past, BAD, x -> x.read(0, 0, 0, n));
                check.unchanged("read 3, 2, 0, " + n, past, BAD, x -> x.read(3, 2, 0, n));
            }
        }
        for (int n = 0; n <= 13; n++) {
            SqueezedAnswers x = Check.of("chip 1 1 1;");
            x.sheet(0, 1, 40);
            check.due("times " + n, x.read(0, 1, 0, n), n);
            check.due("torn of " + n, x.torn(), 0);
            check.due("from the next", x.read(0, 1, 1, n), n);
            check.due("torn of the next", x.torn(), 0);
        }
    }

    private static void noneAtAll(Check check) {
        check.sentence("n (0 to 13) times: of 0 times nothing is read, so nothing is refused");
        for (int f : new int[] {Integer.MIN_VALUE, -1, 0, 40, Integer.MAX_VALUE}) {
            for (int k = 0; k < 4; k++) {
                for (int lane = 0; lane < 3; lane++) {
                    SqueezedAnswers x = Past.MIXED.make();
                    check.due("read of none", x.read(k, lane, f, 0), 0);
                    check.due("torn of none", x.torn(), 0);
                }
            }
        }
        for (Look look : Look.values()) {
            if (look != Look.FAULTS) {
                check.same("read of none", look, Past.MIXED, x -> x.read(0, 0, 0, 0), x -> 0);
            }
        }
    }

    private static void index(Check check) {
        check.sentence("three CELLS each from CELL f on; INDEX");
        for (int size = 0; size <= 40; size++) {
            int lane = size % 3;
            SqueezedAnswers x = Check.of("chip 1 1 1;");
            x.sheet(2, lane, size);
            for (int f = -1; f <= size + 1; f++) {
                int whole = f < 0 ? 0 : Math.min(13, Math.max(0, size - f) / 3);
                check.due("from " + f + " of " + size, x.read(2, lane, f, 13), whole);
                check.due("torn from " + f + " of " + size, x.torn(), whole == 13 ? 0 : 2);
                if (whole > 0) {
                    check.due("just those", x.read(2, lane, f, whole), whole);
                    check.due("torn of just those", x.torn(), 0);
                }
            }
        }
    }

    private static void farOff(Check check) {
        check.sentence("from CELL f on: far below, far beyond");
        for (int f : new int[] {Integer.MIN_VALUE, Integer.MIN_VALUE + 1, -39, -3, -2, -1, 38, 39, 40, 41,
            Integer.MAX_VALUE - 39, Integer.MAX_VALUE - 2, Integer.MAX_VALUE - 1, Integer.MAX_VALUE}) {
            for (int n : new int[] {1, 13}) {
                SqueezedAnswers x = Check.of("chip 1 1 1;");
                x.sheet(2, 0, 40);
                check.due("from " + f, x.read(2, 0, f, n), 0);
                check.due("torn from " + f, x.torn(), 2);
                check.due("none came", x.cell(0, 0, 0), 2);
            }
        }
    }

    private static void nothingAndCast(Check check) {
        check.sentence("NULL (nothing), CAST (another lane), each ahead of INDEX");
        for (int f : new int[] {Integer.MIN_VALUE, -1, 0, 40, Integer.MAX_VALUE}) {
            for (int lane = 0; lane < 3; lane++) {
                SqueezedAnswers x = Past.MIXED.make();
                check.due("nothing as lane " + lane, x.read(3, lane, f, 1), 0);
                check.due("null", x.torn(), 1);
                for (int k = 0; k < 3; k++) {
                    x = Past.MIXED.make();
                    if (k != lane) {
                        check.due("sheet " + k + " as lane " + lane, x.read(k, lane, f, 13), 0);
                        check.due("cast", x.torn(), 3);
                    }
                }
            }
        }
        SqueezedAnswers empty = new SqueezedAnswers();
        empty.sheet(0, 0, 0);
        empty.read(0, 1, 0, 1);
        check.due("a row of none as another lane", empty.torn(), 3);
    }

    private static void oneBehindAnother(Check check) {
        check.sentence("one behind another as by set(): how many came");
        SqueezedAnswers x = Check.of("chip 2 3 1;");
        x.sheet(2, 0, 11);
        Check.triple(x, 2, 1, 0, 1, 1);
        Check.triple(x, 2, 4, 1, 2, 0);
        Check.triple(x, 2, 7, 0, 1, 0);
        check.due("two", x.read(2, 0, 1, 2), 2);
        check.due("the first", x.cell(0, 1, 0), 1);
        check.due("the second", x.cell(1, 2, 0), 0);
        check.due("no third", x.rule(7), 4);
        check.due("all three", x.read(2, 0, 1, 3), 3);
        check.due("the later one stands", x.cell(0, 1, 0), 0);
        check.due("no fault", x.torn(), 0);
        for (int v = 0; v < 3; v++) {
            x.lay(2, 3, v);
            check.due("one of " + v, x.read(2, 0, 1, 1), 1);
            check.due("it has " + v, x.cell(0, 1, 0), v);
        }
        SqueezedAnswers largest = Check.of("chip 8 8 1;");
        largest.sheet(0, 2, 3);
        Check.triple(largest, 0, 0, 7, 7, 1);
        check.due("the last cell", largest.read(0, 2, 0, 1), 1);
        check.due("it came", largest.cell(7, 7, 0), 1);
    }

    private static void wholeOnesAheadCame(Check check) {
        check.sentence("What the machine refuses: those that were whole ahead came");
        SqueezedAnswers x = Check.of("chip 2 3 1;");
        x.sheet(1, 1, 8);
        Check.triple(x, 1, 0, 1, 0, 1);
        Check.triple(x, 1, 3, 1, 1, 1);
        Check.triple(x, 1, 6, 1, 2, 1);
        check.due("two are whole", x.read(1, 1, 0, 3), 2);
        check.due("index", x.torn(), 2);
        check.due("the first came", x.cell(1, 0, 0), 1);
        check.due("the second came", x.cell(1, 1, 0), 1);
        check.due("the third, torn, did not", x.cell(1, 2, 0), 2);
        check.due("nothing else", x.rule(7), 4);
    }

    private static void refusedBySet(Check check) {
        check.sentence("-20 less i: the i-th, whole, is refused by set(): then none came");
        int[][] wrong = {{3, 0, 0}, {-1, 0, 0}, {0, 4, 0}, {0, -1, 0}, {0, 0, 3}, {0, 0, -1}, {8, 8, 8}};
        for (int i = 0; i < 13; i++) {
            int[] one = wrong[i % wrong.length];
            int place = i;
            check.due("the " + i + "-th", withWrong(place, one).read(0, 0, 0, 13), -20 - i);
            SqueezedAnswers x = withWrong(place, one);
            SqueezedAnswers y = withWrong(place, one);
            x.read(0, 0, 0, 13);
            check.that("none came ahead of the " + i + "-th", Look.STATE.at(x).equals(Look.STATE.at(y)));
            check.due("torn stays", x.torn(), y.torn());
            check.due("only those ahead", x.read(0, 0, 0, i), i);
        }
        for (int[] one : wrong) {
            check.due("refused, first", withWrong(0, one).read(0, 0, 0, 1), -20);
        }
        check.sentence("refused by set(): there is no CHAIN");
        SqueezedAnswers none = new SqueezedAnswers();
        none.sheet(0, 0, 3);
        check.due("no chains", none.read(0, 0, 0, 1), -20);
    }

    /** A sheet of bytes on which every triple is good but one. */
    private static SqueezedAnswers withWrong(int i, int[] wrong) {
        SqueezedAnswers x = Past.MIXED.make();
        x.sheet(0, 0, 39);
        for (int j = 0; j < 13; j++) {
            Check.triple(x, 0, 3 * j, j % 3, j % 4, j % 2);
        }
        Check.triple(x, 0, 3 * i, wrong[0], wrong[1], wrong[2]);
        return x;
    }

    private static void firstMet(Check check) {
        check.sentence("the first met");
        SqueezedAnswers x = Check.of("chip 2 3 1;");
        x.sheet(2, 2, 10);
        Check.triple(x, 2, 3, 9, 9, 9);
        check.due("refused ahead of the end", x.read(2, 2, 0, 13), -21);
        check.due("the last, behind it", x.read(2, 2, 6, 13), 1);
        check.due("torn", x.torn(), 2);
        Check.triple(x, 2, 7, 9, 9, 9);
        check.due("a wrong one that is not whole", x.read(2, 2, 8, 1), 0);
        check.due("torn again", x.torn(), 2);
        Check.triple(x, 2, 6, 9, 9, 9);
        check.due("the first of two that are refused", x.read(2, 2, 0, 3), -21);
        check.due("a wrong one of another lane", x.read(2, 1, 3, 1), 0);
        check.due("cast", x.torn(), 3);
        check.due("BAD ahead of all", x.read(2, 2, 3, 14), BAD);
    }

    private static void cellsAlone(Check check) {
        check.sentence("as by set(): nothing else changes, the SHEET neither");
        for (Look look : new Look[] {Look.IMAGE_0, Look.IMAGE_1, Look.TAPE, Look.SHEET_0}) {
            check.same("read", look, Past.MIXED, x -> x.read(0, 0, 0, 4), x -> 0);
        }
        SqueezedAnswers x = Past.MIXED.make();
        SqueezedAnswers y = Past.MIXED.make();
        check.due("four", x.read(0, 0, 0, 4), 4);
        y.set(2, 1, 1);
        y.set(0, 0, 0);
        y.set(0, 2, 2);
        y.set(1, 2, 1);
        check.that("as by set()", Look.STATE.at(x).equals(Look.STATE.at(y)));
        check.due("fault stays", x.fault(), y.fault());
    }
}
