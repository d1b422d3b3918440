/** Promise 12: sure. */
public final class Promise12SureTest {
    private static final String THREE = "chip 3 2 2;column 0 0;column 1 1;column 2 0 1;";

    public static void main(String[] args) {
        Check check = new Check("Promise 12");
        unknownBounds(check);
        oneMayBe(check);
        greatest(check);
        eightAtMost(check);
        outIsNoneOfEither(check);
        check.finish();
    }

    private static void unknownBounds(Check check) {
        check.sentence("u unknown CHAINS (0 to 8). BAD");
        for (Past past : Past.values()) {
            for (int u : Check.outside(9)) {
                check.unchanged("sure " + u, past, SqueezedAnswers.BAD, x -> x.sure(u));
            }
        }
        check.unchanged("sure 0", Past.FRESH, 8, x -> x.sure(0));
        check.unchanged("sure 8", Past.FRESH, 8, x -> x.sure(8));
        check.unchanged("sure 0", Past.MIXED, 0, x -> x.sure(0));
        check.unchanged("sure 8", Past.MIXED, 8, x -> x.sure(8));
    }

    private static void oneMayBe(Check check) {
        check.sentence("0: 1 may be");
        SqueezedAnswers x = Check.of(THREE);
        check.due("beside one", x.sure(1), 0);
        check.due("beside two", x.sure(2), 0);
        x.put(0, 0);
        check.due("one goes nowhere", x.sure(0), 0);
    }

    private static void greatest(Check check) {
        check.sentence("the greatest e such that for no e, nor fewer (1 on), any choice is HIDDEN");
        SqueezedAnswers x = Check.of(THREE);
        check.due("three add up to nothing", x.sure(0), 2);
        x.put(1, 1);
        check.due("two do", x.sure(0), 1);
        for (int all = 2; all <= 8; all++) {
            SqueezedAnswers sum = Check.of("chip " + all + " 1 8;");
            for (int c = 0; c < all - 1; c++) {
                sum.put(c, 1 << c);
            }
            sum.put(all - 1, (1 << (all - 1)) - 1);
            check.due("only all " + all + " add up to nothing", sum.sure(0), all - 1);
        }
        SqueezedAnswers fewer = Check.of("chip 4 1 2;column 0 0;column 1 0;column 2 1;");
        check.due("one is hidden, two of some are not", fewer.sure(0), 0);
    }

    private static void eightAtMost(Check check) {
        check.sentence("8 at most");
        SqueezedAnswers x = Check.of("chip 8 1 8;");
        for (int c = 0; c < 8; c++) {
            x.put(c, 1 << c);
        }
        check.due("none of eight", x.sure(0), 8);
        check.due("each is seen beside any", x.sure(7), 8);
        check.due("no choice beside eight", x.sure(8), 8);
        x.put(7, 127);
        check.due("all of eight", x.sure(0), 7);
        check.due("no choice beside three of three", Check.of(THREE).sure(3), 8);
    }

    private static void outIsNoneOfEither(Check check) {
        check.sentence("CHAINS that are OUT are none of either");
        SqueezedAnswers x = Check.of(THREE);
        x.out(4);
        check.due("two that never meet", x.sure(0), 8);
        check.due("one beside one", x.sure(1), 8);
        x.put(1, 1);
        check.due("alike", x.sure(0), 1);
        check.due("alike beside one", x.sure(1), 0);
        x.out(7);
        check.due("all are out", x.sure(0), 8);
    }
}
