/** Promise 35: count. */
public final class Promise35CountTest {
    private static final int BAD = SqueezedAnswers.BAD;
    private static final int NONE = SqueezedAnswers.NONE;

    public static void main(String[] args) {
        Check check = new Check("Promise 35");
        whatBounds(check);
        images(check);
        ones(check);
        bytes(check);
        cellsOfSheetZero(check);
        wants(check);
        columnBits(check);
        check.finish();
    }

    private static void whatBounds(Check check) {
        check.sentence("0 IMAGES .. 5 bits of all COLUMNS. BAD");
        for (Past past : Past.values()) {
            for (int what : Check.outside(6)) {
                check.unchanged("count " + what, past, BAD, x -> x.count(what));
            }
        }
        int[] mixed = {2, 3, 23, 12, 3, 4};
        for (int what = 0; what < mixed.length; what++) {
            int asked = what;
            check.unchanged("count " + what, Past.MIXED, mixed[what], x -> x.count(asked));
        }
    }

    private static void images(Check check) {
        check.sentence("0 IMAGES");
        SqueezedAnswers x = new SqueezedAnswers();
        check.due("none", x.count(0), 0);
        x.keep(1);
        check.due("the second", x.count(0), 1);
        x.keep(1);
        check.due("the second again", x.count(0), 1);
        x.keep(0);
        check.due("both", x.count(0), 2);
        Check.tell(x, "$");
        check.due("both stay if a text is refused", x.count(0), 2);
        x.text();
        check.due("gone", x.count(0), 0);
        x.keep(0);
        check.due("the first", x.count(0), 1);
    }

    private static void ones(Check check) {
        check.sentence("1 CELLS that have 1");
        SqueezedAnswers x = Check.of("chip 8 8 8;out 0 7;");
        check.due("none", x.count(1), 0);
        for (int i = 0; i < 64; i++) {
            x.set(i / 8, i % 8, 1);
            check.due("so many", x.count(1), i + 1);
        }
        x.set(0, 0, 0);
        x.set(7, 7, 2);
        check.due("two less", x.count(1), 62);
    }

    private static void bytes(Check check) {
        check.sentence("2 bytes on THE TAPE");
        SqueezedAnswers x = new SqueezedAnswers();
        for (int i = 0; i < 160; i++) {
            check.due("so many", x.count(2), i);
            x.feed(' ');
        }
        check.due("full", x.count(2), 160);
        x.feed(' ');
        check.due("not more", x.count(2), 160);
        x.end(7);
        check.due("cut", x.count(2), 7);
        x.text();
        check.due("empty", x.count(2), 0);
    }

    private static void cellsOfSheetZero(Check check) {
        check.sentence("3 CELLS of SHEET 0 (NONE: nothing)");
        SqueezedAnswers x = new SqueezedAnswers();
        check.due("nothing", x.count(3), NONE);
        for (int k = 1; k < 4; k++) {
            x.sheet(k, 0, 5);
            check.due("another sheet", x.count(3), NONE);
        }
        for (int n = 0; n <= 40; n++) {
            x.sheet(0, n % 3, n);
            check.due("so many", x.count(3), n);
        }
        x.sheet(0, 0, 41);
        x.sheet(0, 0, -1);
        check.due("refused ones do not count", x.count(3), 40);
        x.sheet(0, 0, 0);
        check.due("a row of none", x.count(3), 0);
    }

    private static void wants(Check check) {
        check.sentence("4 WANTS that are not 2");
        SqueezedAnswers x = Check.of("chip 8 8 8;out 0 7;");
        check.due("none", x.count(4), 0);
        for (int i = 0; i < 64; i++) {
            x.want(i / 8, i % 8, i % 2);
            check.due("so many", x.count(4), i + 1);
        }
        x.want(7, 7, 2);
        check.due("one less", x.count(4), 63);
    }

    private static void columnBits(Check check) {
        check.sentence("5 bits of all COLUMNS");
        SqueezedAnswers x = Check.of("chip 8 8 8;out 0 7;");
        check.due("none", x.count(5), 0);
        for (int c = 0; c < 8; c++) {
            x.put(c, 255);
            check.due("so many", x.count(5), 8 * c + 8);
        }
        x.put(7, 128);
        check.due("seven less", x.count(5), 57);
    }
}
