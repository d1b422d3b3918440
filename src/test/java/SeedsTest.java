import java.util.Random;

/** Promises 20 to 22: wants, what a seed brings, seeds that bring what is wanted. */
public final class SeedsTest {
    private static final int BAD = SqueezedAnswers.BAD;

    public static void main(String[] args) {
        Check check = new Check("SeedsTest");
        want(check);
        brought(check);
        seed(check);
        againstAllSeeds(check);
        check.finish();
    }

    private static void want(Check check) {
        SqueezedAnswers x = Check.of("chip 2 3 1;");
        check.due("at first", x.want(1, 2, 0), 2);
        check.due("was 0", x.want(1, 2, 1), 0);
        check.due("above", x.want(1, 2, 3), BAD);
        check.due("below", x.want(1, 2, -1), BAD);
        check.due("no chain", x.want(2, 0, 0), BAD);
        check.due("no chain below", x.want(-1, 0, 0), BAD);
        check.due("no cell", x.want(0, 3, 0), BAD);
        check.due("no cell below", x.want(0, -1, 0), BAD);
        check.due("one want", x.count(4), 1);
        check.due("is 1", x.cell(1, 2, 1), 1);
        check.due("the cell stays", x.cell(1, 2, 0), 2);
        check.due("was 1", x.want(1, 2, 2), 1);
        check.due("no want", x.count(4), 0);
    }

    private static void brought(Check check) {
        SqueezedAnswers x = Check.of("chip 3 4 1;register 4 9;");
        int[] lowest = {1, 1, 0, 0};
        int[] highest = {0, 1, 0, 0};
        for (int t = 0; t < 4; t++) {
            check.due("chain 0, cycle " + t, x.brought(3, 0, t), lowest[t]);
            check.due("chain 1, cycle " + t, x.brought(3, 1, t), highest[t]);
        }
        check.due("chain 2 has bit 6 modulo 4", x.brought(4, 2, 0), 1);
        check.due("greatest", x.brought(15, 0, 0), 1);
        check.due("no seed", x.brought(16, 0, 0), BAD);
        check.due("no seed below", x.brought(-1, 0, 0), BAD);
        check.due("no chain", x.brought(0, 3, 0), BAD);
        check.due("no chain below", x.brought(0, -1, 0), BAD);
        check.due("no cell", x.brought(0, 0, 4), BAD);
        check.due("no cell below", x.brought(0, 0, -1), BAD);
        SqueezedAnswers one = Check.of("chip 8 8 1;register 1 1;");
        check.due("one bit stays", one.brought(1, 7, 7), 1);
        SqueezedAnswers none = Check.of("chip 8 8 1;register 1 0;");
        check.due("no taps", none.brought(1, 7, 1), 0);
    }

    private static void seed(Check check) {
        SqueezedAnswers x = Check.of("chip 2 3 1;register 4 9;");
        check.due("what below", x.seed(-1), BAD);
        check.due("what above", x.seed(2), BAD);
        check.due("nothing wanted", x.seed(0), 0);
        check.due("all seeds", x.seed(1), 4);
        x.want(1, 0, 1);
        check.due("the highest bit", x.seed(0), 8);
        check.due("half the seeds", x.seed(1), 3);
        x.want(1, 0, 0);
        check.due("not the highest bit", x.seed(0), 0);
        x.want(0, 1, 1);
        x.want(0, 2, 1);
        x.want(1, 1, 1);
        check.due("one seed", x.seed(0), 7);
        check.due("of one the logarithm", x.seed(1), 0);
        x.want(1, 2, 1);
        check.due("none, least", x.seed(0), SqueezedAnswers.NONE);
        check.due("none, how many", x.seed(1), SqueezedAnswers.NONE);
        x.want(1, 2, 2);
        check.due("there is one again", x.seed(0), 7);
    }

    private static void againstAllSeeds(Check check) {
        Random random = new Random(20);
        for (int run = 0; run < 400; run++) {
            int chains = 1 + random.nextInt(8);
            int length = 1 + random.nextInt(8);
            int bits = 1 + random.nextInt(12);
            int taps = random.nextInt(1 << bits);
            SqueezedAnswers x = Check.of("chip " + chains + " " + length + " 1;register " + bits + " " + taps + ";");
            int wants = random.nextInt(bits + 2);
            int goal = random.nextInt(1 << bits);
            for (int i = 0; i < wants; i++) {
                int c = random.nextInt(chains);
                int t = random.nextInt(length);
                boolean kind = random.nextInt(10) > 0;
                x.want(c, t, kind ? Seeds.bit(goal, bits, taps, c, t) : random.nextInt(2));
            }
            int least = SqueezedAnswers.NONE;
            int found = 0;
            for (int seed = (1 << bits) - 1; seed >= 0; seed--) {
                if (bringsAll(x, seed, chains, length, bits, taps)) {
                    found++;
                    least = seed;
                }
            }
            check.due("least of run " + run, x.seed(0), least);
            int logarithm = SqueezedAnswers.NONE;
            while (found > 0) {
                logarithm = logarithm < 0 ? 0 : logarithm + 1;
                found /= 2;
            }
            check.due("how many of run " + run, x.seed(1), logarithm);
            check.due("brought of run " + run, x.brought(goal, chains - 1, length - 1),
                Seeds.bit(goal, bits, taps, chains - 1, length - 1));
        }
    }

    private static boolean bringsAll(SqueezedAnswers x, int seed, int chains, int length, int bits, int taps) {
        for (int c = 0; c < chains; c++) {
            for (int t = 0; t < length; t++) {
                int want = x.cell(c, t, 1);
                if (want != 2 && want != Seeds.bit(seed, bits, taps, c, t)) {
                    return false;
                }
            }
        }
        return true;
    }
}
