/** Promise 19: draw. */
public final class Promise19DrawTest {
    private static final int[] SEEDS = {0, 1, 2, 7, -1, -2, 123456789, 1 << 16, 1 << 30, Integer.MAX_VALUE - 1,
        Integer.MAX_VALUE, Integer.MIN_VALUE, Integer.MIN_VALUE + 1};

    public static void main(String[] args) {
        Check check = new Check("Promise 19");
        noChains(check);
        cellByCell(check);
        everyShape(check);
        wrapsAround(check);
        cellsAlone(check);
        check.finish();
    }

    private static void noChains(Check check) {
        check.sentence("for each CHAIN: there is none");
        for (int seed : SEEDS) {
            check.unchanged("draw " + seed, Past.FRESH, 0, x -> x.draw(seed));
        }
    }

    private static long next(long seed) {
        return (seed * 1103515245L + 12345L) & 0xFFFFFFFFL;
    }

    private static int valueOf(long seed) {
        int[] values = {0, 1, 2, 0, 2};
        return values[(int) (seed / 65536L % 32768L % 5L)];
    }

    private static void drawn(Check check, SqueezedAnswers x, int chains, int length, int seed) {
        int got = x.draw(seed);
        int unknown = 0;
        long now = seed & 0xFFFFFFFFL;
        for (int c = 0; c < chains; c++) {
            for (int t = 0; t < length; t++) {
                now = next(now);
                unknown += valueOf(now) == 2 ? 1 : 0;
                check.due("cell " + c + ", " + t + " by " + seed, x.cell(c, t, 0), valueOf(now));
            }
        }
        check.due("draw " + seed, got, unknown);
        check.due("cells that have 2", x.rule(7), unknown);
    }

    private static void cellByCell(Check check) {
        check.sentence("got modulo 5, 2 for 2 and 4, 0 for 0 and 3: how many CELLS have 2 then");
        for (int seed : SEEDS) {
            drawn(check, Check.of("chip 8 8 1;"), 8, 8, seed);
            SqueezedAnswers again = Past.MIXED.make();
            drawn(check, again, 3, 4, seed);
            drawn(check, again, 3, 4, ~seed);
        }
        check.due("one cell that becomes 0 by 0", drawnByRest(0), 0);
        check.due("1 by 1", drawnByRest(1), 1);
        check.due("2 by 2", drawnByRest(2), 2);
        check.due("0 by 3", drawnByRest(3), 0);
        check.due("2 by 4", drawnByRest(4), 2);
    }

    /** A cell drawn by the first seed for which got modulo 5 is rest. */
    private static int drawnByRest(int rest) {
        int seed = 0;
        while (next(seed) / 65536L % 32768L % 5L != rest) {
            seed++;
        }
        SqueezedAnswers x = Check.of("chip 1 1 1;");
        x.draw(seed);
        return x.cell(0, 0, 0);
    }

    private static void everyShape(Check check) {
        check.sentence("for each CHAIN by order, each CELL of it by order");
        for (int chains = 1; chains <= 8; chains++) {
            for (int length = 1; length <= 8; length++) {
                drawn(check, Check.of("chip " + chains + " " + length + " 1;"), chains, length, 8 * chains + length);
            }
        }
    }

    private static void wrapsAround(Check check) {
        check.sentence("bits 16 to 30 of it are got: bit 31 is none of them");
        for (int seed : SEEDS) {
            SqueezedAnswers x = Check.of("chip 8 8 1;");
            x.draw(seed);
            SqueezedAnswers y = Check.of("chip 8 8 1;");
            y.draw(seed ^ Integer.MIN_VALUE);
            check.that("the highest bit of the seed is lost", Look.STATE.at(x).equals(Look.STATE.at(y)));
        }
    }

    private static void cellsAlone(Check check) {
        check.sentence("each CELL becomes: nothing else changes");
        for (Look look : new Look[] {Look.FAULTS, Look.IMAGE_0, Look.IMAGE_1, Look.TAPE}) {
            check.same("draw", look, Past.LARGEST, x -> x.draw(3), x -> 0);
        }
        SqueezedAnswers x = Past.MIXED.make();
        SqueezedAnswers y = Past.MIXED.make();
        x.draw(3);
        for (int c = 0; c < 3; c++) {
            check.due("column", x.column(c), y.column(c));
            check.due("suspects", x.suspects(c), y.suspects(c));
            for (int t = 0; t < 4; t++) {
                check.due("want", x.cell(c, t, 1), y.cell(c, t, 1));
            }
        }
        for (int what = 0; what < 7; what++) {
            check.due("rule " + what, x.rule(what), y.rule(what));
        }
    }
}
