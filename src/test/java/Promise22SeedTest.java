import java.util.Random;

/** Promise 22: seed. */
public final class Promise22SeedTest {
    private static final int BAD = SqueezedAnswers.BAD;
    private static final int NONE = SqueezedAnswers.NONE;

    public static void main(String[] args) {
        Check check = new Check("Promise 22");
        whatBounds(check);
        nothingWanted(check);
        leastSeed(check);
        onlySeed(check);
        none(check);
        wantsThatAreNotTwo(check);
        againstAllSeeds(check);
        check.finish();
    }

    private static void whatBounds(Check check) {
        check.sentence("(what 0), (1). BAD");
        for (Past past : Past.values()) {
            for (int what : Check.outside(2)) {
                check.unchanged("seed " + what, past, BAD, x -> x.seed(what));
            }
        }
        check.unchanged("seed 0", Past.SMALLEST, 0, x -> x.seed(0));
        check.unchanged("seed 1", Past.SMALLEST, 0, x -> x.seed(1));
        check.unchanged("seed 0", Past.LARGEST, leastFor(12, 4095), x -> x.seed(0));
        check.unchanged("seed 1", Past.LARGEST, 11, x -> x.seed(1));
    }

    /** The least seed that brings 1 to the last cell of the largest chip. */
    private static int leastFor(int bits, int taps) {
        int seed = 0;
        while (Seeds.bit(seed, bits, taps, 7, 7) != 1) {
            seed++;
        }
        return seed;
    }

    private static void nothingWanted(Check check) {
        check.sentence("all WANTS that are not 2: there are none");
        check.unchanged("no chains", Past.FRESH, 0, x -> x.seed(0));
        check.unchanged("no chains", Past.FRESH, 4, x -> x.seed(1));
        for (int bits = 1; bits <= 12; bits++) {
            SqueezedAnswers x = Check.of("chip 8 8 8;register " + bits + " 1;");
            check.due("the least of all", x.seed(0), 0);
            check.due("all of them", x.seed(1), bits);
        }
    }

    private static void leastSeed(Check check) {
        check.sentence("The least SEED that BRINGS all WANTS (what 0), of how many the logarithm by 2 (1)");
        SqueezedAnswers x = Check.of("chip 2 3 1;register 4 9;");
        x.want(1, 0, 1);
        check.due("the highest bit", x.seed(0), 8);
        check.due("half the seeds", x.seed(1), 3);
        x.want(1, 0, 0);
        check.due("not the highest bit", x.seed(0), 0);
        check.due("the other half", x.seed(1), 3);
        SqueezedAnswers sum = Check.of("chip 2 2 1;register 4 15;");
        sum.want(1, 1, 1);
        check.due("any one bit, the lowest", sum.seed(0), 1);
        sum.want(0, 0, 0);
        check.due("not the lowest, so the next", sum.seed(0), 2);
        check.due("a quarter", sum.seed(1), 2);
    }

    private static void onlySeed(Check check) {
        check.sentence("of how many such SEEDS there are the logarithm by 2: just one");
        for (int bits = 1; bits <= 8; bits++) {
            int most = (1 << bits) - 1;
            SqueezedAnswers x = Check.of("chip 1 8 1;register " + bits + " 1;");
            for (int seed : new int[] {0, 1, most - 1, most}) {
                for (int t = 0; t < bits; t++) {
                    x.want(0, t, (seed >> t) & 1);
                }
                check.due("the one of " + bits + " bits", x.seed(0), seed);
                check.due("it is one", x.seed(1), 0);
            }
        }
        SqueezedAnswers largest = Check.of("chip 8 8 8;register 12 4095;");
        for (int c = 0; c < 8; c++) {
            for (int t = 0; t < 8; t++) {
                largest.want(c, t, Seeds.bit(2748, 12, 4095, c, t));
            }
        }
        check.due("64 wants, one seed", largest.seed(0), 2748);
        check.due("just one", largest.seed(1), 0);
        largest.want(7, 7, 1 - Seeds.bit(2748, 12, 4095, 7, 7));
        check.due("64 wants, no seed", largest.seed(0), NONE);
    }

    private static void none(Check check) {
        check.sentence("NONE: there is none");
        SqueezedAnswers x = Check.of("chip 1 2 1;register 1 1;");
        x.want(0, 0, 1);
        x.want(0, 1, 0);
        check.due("one bit that is to be both", x.seed(0), NONE);
        check.due("and how many", x.seed(1), NONE);
        x.want(0, 1, 1);
        check.due("there is one again", x.seed(0), 1);
        check.due("just one", x.seed(1), 0);
        SqueezedAnswers lost = Check.of("chip 1 2 1;register 1 0;");
        lost.want(0, 1, 1);
        check.due("what is always 0 is to be 1", lost.seed(0), NONE);
        lost.want(0, 1, 0);
        check.due("what is always 0 is to be 0", lost.seed(1), 1);
        check.due("mixed, none for the wants", withClash().seed(0), NONE);
        check.due("mixed, how many", withClash().seed(1), NONE);
    }

    private static SqueezedAnswers withClash() {
        SqueezedAnswers x = Check.of("chip 5 1 1;register 12 0;");
        x.want(0, 0, 1);
        x.want(4, 0, 0);
        return x;
    }

    private static void wantsThatAreNotTwo(Check check) {
        check.sentence("all WANTS that are not 2");
        SqueezedAnswers x = withClash();
        x.want(4, 0, 2);
        check.due("one want is left", x.seed(0), 1);
        check.due("half of all", x.seed(1), 11);
        x.want(0, 0, 2);
        check.due("no want is left", x.seed(1), 12);
        x.out(31);
        x.want(1, 0, 1);
        check.due("chains that are out want, too", x.seed(0), 8);
    }

    private static void againstAllSeeds(Check check) {
        check.sentence("The least SEED, how many: against all SEEDS");
        Random random = new Random(20);
        for (int run = 0; run < 400; run++) {
            int chains = 1 + random.nextInt(8);
            int length = 1 + random.nextInt(8);
            int bits = 1 + random.nextInt(12);
            int taps = random.nextInt(1 << bits);
            SqueezedAnswers x = Check.of("chip " + chains + " " + length + " 1;register " + bits + " " + taps + ";");
            int wants = random.nextInt(bits + 2);
            int goal = random.nextInt(1 << bits);
            for (int i = 0; i < wants; i++) {
                int c = random.nextInt(chains);
                int t = random.nextInt(length);
                boolean kind = random.nextInt(10) > 0;
                x.want(c, t, kind ? Seeds.bit(goal, bits, taps, c, t) : random.nextInt(2));
            }
            int[] found = allSeeds(wantsOf(x, chains, length), bits, taps);
            check.due("least of run " + run, x.seed(0), found[0]);
            check.due("how many of run " + run, x.seed(1), found[1]);
        }
    }

    private static int[][] wantsOf(SqueezedAnswers x, int chains, int length) {
        int[][] wants = new int[chains][length];
        for (int c = 0; c < chains; c++) {
            for (int t = 0; t < length; t++) {
                wants[c][t] = x.cell(c, t, 1);
            }
        }
        return wants;
    }

    private static int[] allSeeds(int[][] wants, int bits, int taps) {
        int least = NONE;
        int found = 0;
        for (int seed = (1 << bits) - 1; seed >= 0; seed--) {
            if (bringsAll(wants, seed, bits, taps)) {
                found++;
                least = seed;
            }
        }
        return new int[] {least, found == 0 ? NONE : 31 - Integer.numberOfLeadingZeros(found)};
    }

    private static boolean bringsAll(int[][] wants, int seed, int bits, int taps) {
        for (int c = 0; c < wants.length; c++) {
            for (int t = 0; t < wants[c].length; t++) {
                if (wants[c][t] != 2 && wants[c][t] != Seeds.bit(seed, bits, taps, c, t)) {
                    return false;
                }
            }
        }
        return true;
    }
}
