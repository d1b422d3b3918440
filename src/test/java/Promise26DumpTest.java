/** Promise 26: dump. */
public final class Promise26DumpTest {
    private static final int BAD = SqueezedAnswers.BAD;
    private static final int NOWHERE = 65536;

    public static void main(String[] args) {
        Check check = new Check("Promise 26");
        chainBounds(check);
        bitsBounds(check);
        placesFromFirstToLast(check);
        nowhere(check);
        aheadOfThePlace(check);
        twoMayBeEither(check);
        ofSuspectsAreLeft(check);
        thatChainAlone(check);
        check.finish();
    }

    private static void chainBounds(Check check) {
        check.sentence("A CHAIN has DUMPED. BAD: there is no such CHAIN");
        for (Past past : Past.values()) {
            for (int c : Check.outside(past.chains)) {
                check.unchanged("dump " + c + ", 0", past, BAD, x -> x.dump(c, 0));
                check.unchanged("dump " + c + ", 1", past, BAD, x -> x.dump(c, 1));
            }
        }
    }

    private static void bitsBounds(Check check) {
        check.sentence("bits d (bit t of CELL t, as many as LENGTH). BAD");
        for (Past past : Past.values()) {
            for (int d : Check.outside(1 << past.length)) {
                check.unchanged("dump 0, " + d, past, BAD, x -> x.dump(0, d));
            }
        }
        for (int length = 1; length <= 8; length++) {
            SqueezedAnswers x = Check.of("chip 8 " + length + " 1;");
            int all = (1 << length) - 1;
            check.due("none", x.dump(6, 0), length + 1);
            check.due("all", x.dump(7, all), length + 1);
            check.due("one more", x.dump(5, all + 1), BAD);
            check.due("one more, and one", x.dump(5, all + 2), BAD);
            check.due("all and the sign", x.dump(5, all | Integer.MIN_VALUE), BAD);
            check.due("nothing has changed", x.clear(5), 2 * length + 1);
        }
    }

    private static void placesFromFirstToLast(Check check) {
        check.sentence("STICK at a PLACE 0 to LENGTH less 1 with a VALUE 0, 1: of that one and all behind it VALUE");
        for (int length = 1; length <= 8; length++) {
            int all = (1 << length) - 1;
            for (int place = 0; place < length; place++) {
                for (int v = 0; v < 2; v++) {
                    SqueezedAnswers x = Check.of("chip 1 " + length + " 1;");
                    // Cells ahead of the place differ from the value, so that it is the first place that fits.
                    for (int t = 0; t < length; t++) {
                        x.set(0, t, 1 - v);
                    }
                    int behind = all & -(1 << place);
                    check.due("only that place", x.dump(0, v == 1 ? behind : all - behind), 1);
                    check.due("place " + place + " with " + v, x.suspects(0), 1 << (2 * place + v));
                }
            }
        }
    }

    private static void nowhere(Check check) {
        check.sentence("or it sticks nowhere: it DUMPS all as it is");
        SqueezedAnswers x = Check.of("chip 1 4 1;");
        Check.cells(x, 0, "1010");
        check.due("as it is", x.dump(0, 5), 2);
        check.due("nowhere, or at the last one", x.suspects(0), NOWHERE + 64);
        x.clear(0);
        check.due("the last is another", x.dump(0, 13), 2);
        check.due("at either of the last two with 1", x.suspects(0), 128 + 32);
        check.due("what is left does not fit", x.dump(0, 5), 0);
    }

    private static void aheadOfThePlace(Check check) {
        check.sentence("what it DUMPS of CELLS ahead of the PLACE (nearer to 0) is what they have");
        SqueezedAnswers x = Check.of("chip 1 4 1;");
        Check.cells(x, 0, "1010");
        check.due("ones", x.dump(0, 15), 2);
        check.due("at 0 or 1 with 1", x.suspects(0), 2 + 8);
        x.clear(0);
        check.due("the first is another", x.dump(0, 4), 0);
        x.clear(0);
        check.due("none", x.dump(0, 0), 1);
        check.due("at 0 with 0", x.suspects(0), 1);
    }

    private static void twoMayBeEither(Check check) {
        check.sentence("(a CELL that has 2 may be either)");
        SqueezedAnswers x = Check.of("chip 1 4 1;");
        Check.cells(x, 0, "2122");
        check.due("2 is either", x.dump(0, 3), 3);
        check.due("at 2, 3 with 0, or nowhere", x.suspects(0), NOWHERE + 64 + 16);
        x.clear(0);
        check.due("against the 1", x.dump(0, 4), 0);
        for (int d = 0; d < 256; d++) {
            SqueezedAnswers all = Check.of("chip 1 8 1;");
            all.dump(0, d);
            check.due("nowhere is left", all.suspects(0) & NOWHERE, NOWHERE);
        }
    }

    private static void ofSuspectsAreLeft(Check check) {
        check.sentence("of SUSPECTS those are left by which it may have: how many are");
        SqueezedAnswers x = Check.of("chip 1 4 1;");
        Check.cells(x, 0, "1010");
        check.due("ones", x.dump(0, 15), 2);
        Check.cells(x, 0, "0010");
        check.due("cells changed", x.dump(0, 14), 1);
        check.due("at 1 with 1", x.suspects(0), 8);
        check.due("none fits", x.dump(0, 0), 0);
        check.due("no suspects", x.suspects(0), 0);
        check.due("none come back", x.dump(0, 14), 0);
        SqueezedAnswers one = Check.of("chip 1 1 1;cell 0 0 0;");
        check.due("one cell", one.dump(0, 1), 1);
        check.due("with 1", one.suspects(0), 2);
        check.due("the other", one.dump(0, 0), 0);
    }

    private static void thatChainAlone(Check check) {
        check.sentence("SUSPECTS of a CHAIN: nothing else changes");
        SqueezedAnswers x = Check.of("chip 8 4 1;");
        x.dump(3, 0);
        for (int c = 0; c < 8; c++) {
            check.due("suspects of " + c, x.suspects(c), c == 3 ? NOWHERE + 85 : NOWHERE + 255);
        }
        for (Look look : Look.values()) {
            if (look != Look.STATE) {
                check.same("dump", look, Past.MIXED, y -> y.dump(0, 9), y -> 0);
            }
            check.same("dump and clear", look, Past.MIXED, y -> y.dump(0, 9) + y.clear(0), y -> 0);
        }
    }
}
