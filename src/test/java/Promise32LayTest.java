/** Promise 32: lay. */
public final class Promise32LayTest {
    private static final int BAD = SqueezedAnswers.BAD;

    public static void main(String[] args) {
        Check check = new Check("Promise 32");
        sheetBounds(check);
        nothing(check);
        index(check);
        lowestBits(check);
        thatCellAlone(check);
        check.finish();
    }

    private static void sheetBounds(Check check) {
        check.sentence("BAD: k");
        for (Past past : Past.values()) {
            for (int k : Check.outside(4)) {
                check.unchanged("lay " + k + ", 0, 1", past, BAD, x -> x.lay(k, 0, 1));
                check.unchanged("lay " + k + ", -1, 1", past, BAD, x -> x.lay(k, -1, 1));
            }
        }
        for (int k = 0; k < 4; k++) {
            SqueezedAnswers x = new SqueezedAnswers();
            x.sheet(k, 0, 1);
            check.due("lay " + k, x.lay(k, 0, 1), 1);
        }
    }

    private static void nothing(Check check) {
        check.sentence("-10 less the FAULT: NULL, ahead of INDEX");
        for (int i : new int[] {Integer.MIN_VALUE, -1, 0, 39, 40, Integer.MAX_VALUE}) {
            check.unchanged("lay 3, " + i, Past.MIXED, -11, x -> x.lay(3, i, 1));
            check.unchanged("lay 0, " + i, Past.FRESH, -11, x -> x.lay(0, i, 1));
        }
    }

    private static void index(Check check) {
        check.sentence("-10 less the FAULT: INDEX");
        for (int i : Check.outside(12)) {
            check.unchanged("lay 0, " + i, Past.MIXED, -12, x -> x.lay(0, i, 1));
        }
        for (int i : Check.outside(7)) {
            check.unchanged("lay 1, " + i, Past.MIXED, -12, x -> x.lay(1, i, 1));
        }
        for (int i : Check.outside(40)) {
            check.unchanged("lay 2, " + i, Past.MIXED, -12, x -> x.lay(2, i, 1));
        }
        for (int i : Check.outside(0)) {
            check.unchanged("lay 0, " + i, Past.SMALLEST, -12, x -> x.lay(0, i, 1));
        }
        for (int n = 1; n <= 40; n++) {
            SqueezedAnswers x = new SqueezedAnswers();
            x.sheet(1, n % 3, n);
            check.due("the first of " + n, x.lay(1, 0, 1), 1);
            check.due("the last of " + n, x.lay(1, n - 1, 1), 1);
            check.due("behind it", x.lay(1, n, 1), -12);
            check.due("ahead of the first", x.lay(1, -1, 1), -12);
        }
    }

    /** What a cell is to have after v has been laid: 0 to 2, or refused. */
    private static void laid(Check check, int lane, int v, int becomes) {
        SqueezedAnswers x = Check.of("chip 1 1 1;");
        x.sheet(0, lane, 3);
        check.due("lay " + v, x.lay(0, 2, v), 1);
        boolean refused = becomes < 0 || becomes > 2;
        check.due("read of " + v + " in lane " + lane, x.read(0, lane, 0, 1), refused ? -20 : 1);
        check.due("what came of " + v, x.cell(0, 0, 0), refused ? 2 : becomes);
    }

    private static void lowestBits(Check check) {
        check.sentence("becomes v (its lowest bits)");
        int[] far = {Integer.MIN_VALUE, Integer.MAX_VALUE, -1, 0, 1, 2, 3, 127, 128, 255, 256, 257, 258, 259, -255, -256,
            32767, 32768, 65535, 65536, 65537, 65538, 65539, -65535, -65536, 1 << 24, (1 << 24) + 1, (1 << 31) + 1};
        for (int v : far) {
            laid(check, 0, v, (byte) v);
            laid(check, 1, v, (short) v);
            laid(check, 2, v, v);
        }
        laid(check, 0, 256 + 1, 1);
        laid(check, 0, -256 + 2, 2);
        laid(check, 1, 256 + 1, 257);
        laid(check, 1, 65536 + 1, 1);
        laid(check, 2, 65536 + 1, 65537);
        laid(check, 0, 255, -1);
        laid(check, 1, 65535, -1);
    }

    private static void thatCellAlone(Check check) {
        check.sentence("CELL i of a SHEET becomes v: nothing else changes");
        for (Look look : Look.values()) {
            if (look != Look.SHEET_1) {
                check.same("lay 1, 3", look, Past.MIXED, x -> x.lay(1, 3, 1), x -> 0);
            }
            check.same("lay and lay back", look, Past.MIXED, x -> x.lay(1, 3, 1) + x.lay(1, 3, 2), x -> 0);
        }
        SqueezedAnswers x = Check.of("chip 1 1 1;");
        for (int i = 0; i < 40; i++) {
            x.sheet(0, 0, 40);
            x.lay(0, i, 7);
            check.due("the triple of " + i, x.read(0, 0, 0, 13), i == 39 ? 13 : -20 - i / 3);
            x.lay(0, i, 0);
            check.due("all are 0 again", x.read(0, 0, 0, 13), 13);
        }
    }
}
