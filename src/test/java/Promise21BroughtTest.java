/** Promise 21: brought, and the REGISTER. */
public final class Promise21BroughtTest {
    private static final int BAD = SqueezedAnswers.BAD;

    public static void main(String[] args) {
        Check check = new Check("Promise 21");
        seedBounds(check);
        chainBounds(check);
        cellBounds(check);
        bitOfTheChain(check);
        lowestIsLost(check);
        highestIsTheSum(check);
        oneBit(check);
        asAtFirst(check);
        againstTheRegister(check);
        check.finish();
    }

    private static void seedBounds(Check check) {
        check.sentence("a SEED (0 to 2 to the power BITS, less 1). BAD");
        for (Past past : Past.values()) {
            for (int seed : Check.outside(1 << past.bits)) {
                check.unchanged("brought " + seed + ", 0, 0", past, BAD, x -> x.brought(seed, 0, 0));
            }
        }
        for (int bits = 1; bits <= 12; bits++) {
            SqueezedAnswers x = Check.of("chip 1 1 1;register " + bits + " 0;");
            check.due("the least", x.brought(0, 0, 0), 0);
            check.due("the next", x.brought(1, 0, 0), 1);
            check.due("the greatest", x.brought((1 << bits) - 1, 0, 0), 1);
            check.due("one more", x.brought(1 << bits, 0, 0), BAD);
        }
    }

    private static void chainBounds(Check check) {
        check.sentence("to a CELL. BAD: there is no such CHAIN");
        for (Past past : Past.values()) {
            for (int c : Check.outside(past.chains)) {
                check.unchanged("brought 0, " + c + ", 0", past, BAD, x -> x.brought(0, c, 0));
            }
        }
    }

    private static void cellBounds(Check check) {
        check.sentence("to a CELL. BAD: there is no such CELL");
        for (Past past : Past.values()) {
            for (int t : Check.outside(past.length)) {
                check.unchanged("brought 0, 0, " + t, past, BAD, x -> x.brought(0, 0, t));
            }
        }
        check.unchanged("brought 31, 2, 3", Past.MIXED, Seeds.bit(31, 5, 9, 2, 3), x -> x.brought(31, 2, 3));
        check.unchanged("brought 4095, 7, 7", Past.LARGEST, Seeds.bit(4095, 12, 4095, 7, 7), x -> x.brought(4095, 7, 7));
    }

    private static void bitOfTheChain(Check check) {
        check.sentence("BROUGHT to CELL t of CHAIN c: the bit 3 c (modulo BITS) of it");
        for (int bits = 1; bits <= 12; bits++) {
            SqueezedAnswers x = Check.of("chip 8 1 1;register " + bits + " 0;");
            for (int c = 0; c < 8; c++) {
                int bit = 3 * c;
                while (bit >= bits) {
                    bit -= bits;
                }
                check.due("that bit alone", x.brought(1 << bit, c, 0), 1);
                check.due("all but that bit", x.brought((1 << bits) - 1 - (1 << bit), c, 0), 0);
            }
        }
    }

    private static void lowestIsLost(Check check) {
        check.sentence("behind each CYCLE it is moved down by one bit (the lowest one is lost)");
        SqueezedAnswers x = Check.of("chip 1 8 1;register 8 0;");
        for (int t = 0; t < 8; t++) {
            for (int bit = 0; bit < 8; bit++) {
                check.due("bit " + bit + " in cycle " + t, x.brought(1 << bit, 0, t), bit == t ? 1 : 0);
            }
        }
        SqueezedAnswers shorter = Check.of("chip 1 8 1;register 3 0;");
        for (int t = 3; t < 8; t++) {
            check.due("nothing is left in cycle " + t, shorter.brought(7, 0, t), 0);
        }
    }

    private static void highestIsTheSum(Check check) {
        check.sentence("the highest one becomes the sum modulo 2 of those that were at TAPS");
        SqueezedAnswers x = Check.of("chip 3 4 1;register 4 9;");
        int[] lowest = {1, 1, 0, 0};
        int[] highest = {0, 1, 0, 0};
        for (int t = 0; t < 4; t++) {
            check.due("chain 0, cycle " + t, x.brought(3, 0, t), lowest[t]);
            check.due("chain 1, cycle " + t, x.brought(3, 1, t), highest[t]);
        }
        SqueezedAnswers all = Check.of("chip 2 2 1;register 4 15;");
        for (int seed = 0; seed < 16; seed++) {
            check.due("sum of " + seed, all.brought(seed, 1, 1), Integer.bitCount(seed) % 2);
        }
    }

    private static void oneBit(Check check) {
        check.sentence("BITS 1: the bit is the highest one and the lowest one");
        SqueezedAnswers stays = Check.of("chip 8 8 1;register 1 1;");
        SqueezedAnswers goes = Check.of("chip 8 8 1;register 1 0;");
        for (int t = 0; t < 8; t++) {
            check.due("it comes back", stays.brought(1, 7, t), 1);
            check.due("it is lost", goes.brought(1, 7, t), t == 0 ? 1 : 0);
            check.due("nothing comes of nothing", stays.brought(0, 7, t), 0);
        }
    }

    private static void asAtFirst(Check check) {
        check.sentence("BITS 4 at first, TAPS 1 at first: the lowest one comes back as the highest one");
        SqueezedAnswers x = Check.of("chip 1 8 1;");
        for (int seed = 0; seed < 16; seed++) {
            for (int t = 0; t < 8; t++) {
                check.due("seed " + seed + ", cycle " + t, x.brought(seed, 0, t), (seed >> (t % 4)) & 1);
            }
        }
    }

    private static void againstTheRegister(Check check) {
        check.sentence("REGISTER, a bit at a time");
        for (int bits = 1; bits <= 12; bits++) {
            int taps = 2730 & ((1 << bits) - 1);
            int seed = 3003 & ((1 << bits) - 1);
            SqueezedAnswers x = Check.of("chip 8 8 1;register " + bits + " " + taps + ";");
            for (int c = 0; c < 8; c++) {
                for (int t = 0; t < 8; t++) {
                    check.due("bits " + bits, x.brought(seed, c, t), Seeds.bit(seed, bits, taps, c, t));
                }
            }
        }
    }
}
