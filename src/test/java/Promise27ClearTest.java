/** Promise 27: clear. */
public final class Promise27ClearTest {
    private static final int BAD = SqueezedAnswers.BAD;

    public static void main(String[] args) {
        Check check = new Check("Promise 27");
        chainBounds(check);
        howManyTheyWere(check);
        thatChainAlone(check);
        check.finish();
    }

    private static void chainBounds(Check check) {
        check.sentence("SUSPECTS of a CHAIN. BAD");
        for (Past past : Past.values()) {
            for (int c : Check.outside(past.chains)) {
                check.unchanged("clear " + c, past, BAD, x -> x.clear(c));
            }
        }
        for (int chains = 1; chains <= 8; chains++) {
            SqueezedAnswers x = Check.of("chip " + chains + " 1 1;");
            check.due("the last of " + chains, x.clear(chains - 1), 3);
            check.due("behind it", x.clear(chains), BAD);
        }
    }

    private static void howManyTheyWere(Check check) {
        check.sentence("are all again: how many they were");
        for (int length = 1; length <= 8; length++) {
            SqueezedAnswers x = Check.of("chip 1 " + length + " 1;");
            int all = 65536 + (1 << (2 * length)) - 1;
            check.due("all", x.clear(0), 2 * length + 1);
            check.due("all stay", x.suspects(0), all);
            int left = x.dump(0, 0);
            check.due("some", x.clear(0), left);
            check.due("all again", x.suspects(0), all);
            x.dump(0, 0);
            Check.cells(x, 0, "1".repeat(length));
            x.dump(0, 1);
            x.dump(0, 0);
            check.due("none", x.clear(0), 0);
            check.due("all of none", x.suspects(0), all);
        }
    }

    private static void thatChainAlone(Check check) {
        check.sentence("SUSPECTS of a CHAIN: nothing else changes");
        SqueezedAnswers x = Past.LARGEST.make();
        SqueezedAnswers y = Past.LARGEST.make();
        x.clear(3);
        for (int c = 0; c < 8; c++) {
            check.due("suspects of " + c, x.suspects(c), c == 3 ? 131071 : y.suspects(c));
        }
        for (Look look : Look.values()) {
            if (look != Look.STATE) {
                check.same("clear", look, Past.MIXED, z -> z.clear(2), z -> 0);
            }
        }
        check.unchanged("clear what is clear", Past.MIXED, 9, z -> z.clear(0));
    }
}
