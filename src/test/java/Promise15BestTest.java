/** Promise 15: best. */
public final class Promise15BestTest {
    public static void main(String[] args) {
        Check check = new Check("Promise 15");
        noChains(check);
        mostWatched(check);
        leastOfSeveral(check);
        whateverIsOut(check);
        allTried(check);
        check.finish();
    }

    private static void noChains(Check check) {
        check.sentence("The OUT by which most CELLS would be WATCHED: there are no CHAINS");
        check.unchanged("best", Past.FRESH, 0, x -> x.best());
        check.unchanged("best", Past.SMALLEST, 0, x -> x.best());
    }

    private static void mostWatched(Check check) {
        check.sentence("The OUT by which most CELLS would be WATCHED");
        SqueezedAnswers x = Check.of("chip 3 2 1;column 0 0;column 1 0;column 2 0;");
        Check.cells(x, 0, "11");
        Check.cells(x, 1, "22");
        Check.cells(x, 2, "12");
        check.due("without the second", x.best(), 2);
        Check.cells(x, 2, "22");
        check.due("only the first", x.best(), 6);
        SqueezedAnswers eight = Check.of("chip 8 1 1;column 0 0;column 7 0;cell 0 0 1;");
        check.due("without the last", eight.best(), 128);
        for (int c = 1; c < 8; c++) {
            eight.put(c, 1);
        }
        check.due("without all others", eight.best(), 254);
    }

    private static void leastOfSeveral(Check check) {
        check.sentence("of several the least bits");
        SqueezedAnswers x = Check.of("chip 2 2 1;column 0 0;column 1 0;cell 0 0 1;cell 1 1 1;");
        check.due("either of two", x.best(), 1);
        x.set(0, 1, 2);
        x.set(1, 1, 2);
        check.due("only the first is known", x.best(), 2);
        SqueezedAnswers none = Check.of("chip 8 8 8;column 0 0 1 2 3 4 5 6 7;");
        check.due("none is known whatever is out", none.best(), 0);
        SqueezedAnswers same = Check.of("chip 3 1 3;column 0 0;column 1 1;column 2 2;cell 0 0 1;");
        check.due("what is unknown disturbs none", same.best(), 0);
    }

    private static void whateverIsOut(Check check) {
        check.sentence("would be WATCHED: whatever is OUT now, and OUT stays");
        SqueezedAnswers x = Check.of("chip 3 2 1;column 0 0;column 1 0;column 2 0;cell 0 0 1;cell 0 1 1;");
        for (int out = 0; out < 8; out++) {
            x.out(out);
            check.due("best, out " + out, x.best(), 6);
            check.due("out stays", x.rule(3), out);
        }
        for (Past past : Past.values()) {
            int best = past.make().best();
            check.unchanged("best", past, best, y -> y.best());
        }
    }

    private static void allTried(Check check) {
        check.sentence("The OUT by which most CELLS would be WATCHED, of several the least bits");
        for (int seed = 0; seed < 20; seed++) {
            SqueezedAnswers x = Check.of("chip 5 6 4;");
            for (int c = 0; c < 5; c++) {
                x.put(c, (seed * 7 + 5 * c) % 16);
            }
            x.draw(seed);
            int best = x.best();
            int least = 0;
            int most = -1;
            for (int out = 0; out < 32; out++) {
                x.out(out);
                if (x.watched() > most) {
                    most = x.watched();
                    least = out;
                }
            }
            check.due("best of seed " + seed, best, least);
        }
    }
}
