/** Promise 31: sheet. */
public final class Promise31SheetTest {
    private static final int BAD = SqueezedAnswers.BAD;

    public static void main(String[] args) {
        Check check = new Check("Promise 31");
        sheetBounds(check);
        laneBounds(check);
        tooMany(check);
        sizeBelowZero(check);
        newRowOfZeros(check);
        noCells(check);
        thatSheetAlone(check);
        check.finish();
    }

    private static void sheetBounds(Check check) {
        check.sentence("SHEETS 0 to 3. BAD");
        for (Past past : Past.values()) {
            for (int k : Check.outside(4)) {
                check.unchanged("sheet " + k + ", 0, 1", past, BAD, x -> x.sheet(k, 0, 1));
                check.unchanged("sheet " + k + ", 0, -1", past, BAD, x -> x.sheet(k, 0, -1));
            }
        }
        for (int k = 0; k < 4; k++) {
            check.due("sheet " + k, new SqueezedAnswers().sheet(k, 0, 1), 1);
        }
    }

    private static void laneBounds(Check check) {
        check.sentence("BYTES (lane 0), SHORTS (1), INTS (2). BAD");
        for (Past past : Past.values()) {
            for (int lane : Check.outside(3)) {
                check.unchanged("sheet 0, " + lane + ", 1", past, BAD, x -> x.sheet(0, lane, 1));
                check.unchanged("sheet 0, " + lane + ", -1", past, BAD, x -> x.sheet(0, lane, -1));
            }
        }
        for (int lane = 0; lane < 3; lane++) {
            SqueezedAnswers x = Check.of("chip 1 1 1;");
            check.due("lane " + lane, x.sheet(3, lane, 3), 1);
            for (int as = 0; as < 3; as++) {
                check.due("taken as lane " + as, x.read(3, as, 0, 1), as == lane ? 1 : 0);
                check.due("torn", x.torn(), as == lane ? 0 : 3);
            }
        }
    }

    private static void tooMany(Check check) {
        check.sentence("0 to 40 CELLS. BAD: also n above 40");
        for (Past past : Past.values()) {
            for (int n : new int[] {41, 42, Integer.MAX_VALUE}) {
                check.unchanged("sheet 0, 2, " + n, past, BAD, x -> x.sheet(0, 2, n));
                check.unchanged("sheet 3, 0, " + n, past, BAD, x -> x.sheet(3, 0, n));
            }
        }
        for (int n = 0; n <= 40; n++) {
            SqueezedAnswers x = new SqueezedAnswers();
            check.due("sheet of " + n, x.sheet(0, n % 3, n), 1);
            check.due("it has so many", x.count(3), n);
            check.due("behind the last", x.lay(0, n, 1), -12);
        }
    }

    private static void sizeBelowZero(Check check) {
        check.sentence("4 SIZE (below 0): -10 - 4");
        for (Past past : Past.values()) {
            for (int lane = 0; lane < 3; lane++) {
                int asked = lane;
                check.unchanged("sheet 0, " + lane + ", -1", past, -14, x -> x.sheet(0, asked, -1));
                check.unchanged("sheet 3, " + lane + ", least", past, -14, x -> x.sheet(3, asked, Integer.MIN_VALUE));
            }
        }
    }

    private static void newRowOfZeros(Check check) {
        check.sentence("A SHEET is a new row of CELLS 0: 1");
        for (int lane = 0; lane < 3; lane++) {
            SqueezedAnswers x = Check.of("chip 1 1 1;");
            x.sheet(2, 2, 40);
            for (int i = 0; i < 40; i++) {
                x.lay(2, i, 9);
            }
            check.due("nines are refused", x.read(2, 2, 0, 1), -20);
            check.due("a new row", x.sheet(2, lane, 40), 1);
            check.due("zeros", x.read(2, lane, 0, 13), 13);
            check.due("to the last", x.read(2, lane, 37, 1), 1);
            check.due("the cell has 0", x.cell(0, 0, 0), 0);
        }
    }

    private static void noCells(Check check) {
        check.sentence("0 to 40 CELLS, or nothing: a row of none is not nothing");
        for (int lane = 0; lane < 3; lane++) {
            SqueezedAnswers x = new SqueezedAnswers();
            check.due("of none", x.sheet(0, lane, 0), 1);
            check.due("none", x.count(3), 0);
            check.due("no cell", x.lay(0, 0, 0), -12);
            check.due("read", x.read(0, lane, 0, 1), 0);
            check.due("torn", x.torn(), 2);
        }
    }

    private static void thatSheetAlone(Check check) {
        check.sentence("A SHEET is a new row: nothing else changes");
        for (int k = 0; k < 4; k++) {
            for (Look look : Look.values()) {
                boolean own = look.ordinal() - Look.SHEET_0.ordinal() == k;
                boolean counted = k == 0 && (look == Look.STATE || look.name().startsWith("IMAGE") || look == Look.TAPE);
                if (!own && !counted) {
                    int sheet = k;
                    check.same("sheet " + k, look, Past.MIXED, x -> x.sheet(sheet, 1, 5), x -> 0);
                }
            }
        }
    }
}
