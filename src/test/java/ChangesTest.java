/** Promises 16 to 19: set, put, out, draw. */
public final class ChangesTest {
    private static final int BAD = SqueezedAnswers.BAD;

    public static void main(String[] args) {
        Check check = new Check("ChangesTest");
        set(check);
        put(check);
        out(check);
        draw(check);
        check.finish();
    }

    private static void set(Check check) {
        SqueezedAnswers x = Check.of("chip 2 3 1;");
        check.due("at first", x.set(1, 2, 0), 2);
        check.due("had 0", x.set(1, 2, 1), 0);
        check.due("had 1", x.set(1, 2, 2), 1);
        check.due("value above", x.set(1, 2, 3), BAD);
        check.due("value below", x.set(1, 2, -1), BAD);
        check.due("chain above", x.set(2, 0, 0), BAD);
        check.due("chain below", x.set(-1, 0, 0), BAD);
        check.due("cell above", x.set(0, 3, 0), BAD);
        check.due("cell below", x.set(0, -1, 0), BAD);
        check.due("nothing changed", x.rule(7), 6);
        x.set(0, 1, 1);
        check.due("that cell", x.cell(0, 1, 0), 1);
        check.due("no other", x.rule(7), 5);
        check.due("its want stays", x.cell(0, 1, 1), 2);
    }

    private static void put(Check check) {
        SqueezedAnswers x = Check.of("chip 2 1 3;column 1 0;");
        check.due("was", x.put(1, 7), 1);
        check.due("is", x.column(1), 7);
        check.due("beyond the outputs", x.put(1, 8), BAD);
        check.due("below", x.put(1, -1), BAD);
        check.due("no chain", x.put(2, 0), BAD);
        check.due("no chain below", x.put(-1, 0), BAD);
        check.due("still", x.put(1, 0), 7);
        check.due("none", x.column(1), 0);
        check.due("the other", x.column(0), 0);
    }

    private static void out(Check check) {
        SqueezedAnswers x = Check.of("chip 3 1 1;out 1;");
        check.due("was", x.out(7), 2);
        check.due("is", x.rule(3), 7);
        check.due("beyond", x.out(8), BAD);
        check.due("below", x.out(-1), BAD);
        check.due("still", x.out(0), 7);
        check.due("none", x.rule(3), 0);
    }

    private static void draw(Check check) {
        int[] seeds = {0, 1, 7, -1, 123456789, Integer.MAX_VALUE, Integer.MIN_VALUE};
        int[] values = {0, 1, 2, 0, 2};
        for (int seed : seeds) {
            SqueezedAnswers x = Check.of("chip 8 7 1;");
            x.want(3, 3, 1);
            int got = x.draw(seed);
            int unknown = 0;
            long now = seed & 0xFFFFFFFFL;
            for (int c = 0; c < 8; c++) {
                for (int t = 0; t < 7; t++) {
                    now = (now * 1103515245L + 12345L) & 0xFFFFFFFFL;
                    int v = values[(int) ((now / 65536L) % 32768L % 5L)];
                    unknown += v == 2 ? 1 : 0;
                    check.due("cell " + c + ", " + t + " by " + seed, x.cell(c, t, 0), v);
                }
            }
            check.due("draw " + seed, got, unknown);
            check.due("the want stays", x.cell(3, 3, 1), 1);
        }
    }
}
