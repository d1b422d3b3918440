/** Promise 14: watched. */
public final class Promise14WatchedTest {
    public static void main(String[] args) {
        Check check = new Check("Promise 14");
        none(check);
        all(check);
        howMany(check);
        asEachCell(check);
        check.finish();
    }

    private static void none(Check check) {
        check.sentence("How many CELLS are WATCHED: none");
        check.unchanged("no chains", Past.FRESH, 0, x -> x.watched());
        SqueezedAnswers x = Check.of("chip 8 8 8;");
        for (int c = 0; c < 8; c++) {
            x.put(c, 255);
        }
        check.due("none is known", x.watched(), 0);
        x.set(0, 0, 1);
        check.due("one is known beside unknown ones", x.watched(), 0);
    }

    private static void all(Check check) {
        check.sentence("How many CELLS are WATCHED: all");
        SqueezedAnswers x = Check.of("chip 8 8 8;");
        for (int i = 0; i < 64; i++) {
            x.put(i / 8, 1 << (i / 8));
            x.set(i / 8, i % 8, i % 2);
            check.due("so many", x.watched(), i + 1);
        }
        x.out(255);
        check.due("all are out", x.watched(), 0);
        check.unchanged("the only one", Past.SMALLEST, 1, y -> y.watched());
    }

    private static void howMany(Check check) {
        check.sentence("How many CELLS are WATCHED");
        SqueezedAnswers x = Check.of("chip 3 2 2;column 0 0;column 1 1;column 2 0 1;");
        Check.cells(x, 0, "11");
        Check.cells(x, 1, "01");
        Check.cells(x, 2, "10");
        check.due("all", x.watched(), 6);
        x.set(0, 0, 2);
        check.due("one unknown", x.watched(), 5);
        x.set(2, 0, 2);
        check.due("two unknown", x.watched(), 3);
        x.out(4);
        check.due("the third out", x.watched(), 3);
        x.put(1, 0);
        check.due("the second goes nowhere", x.watched(), 1);
    }

    private static void asEachCell(Check check) {
        check.sentence("as cell() tells of each");
        for (Past past : Past.values()) {
            SqueezedAnswers x = past.make();
            int found = 0;
            for (int c = 0; c < past.chains; c++) {
                for (int t = 0; t < past.length; t++) {
                    found += x.cell(c, t, 2);
                }
            }
            check.unchanged("watched", past, found, y -> y.watched());
        }
    }
}
