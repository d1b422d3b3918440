/** Promise 13: hides. */
public final class Promise13HidesTest {
    private static final int BAD = SqueezedAnswers.BAD;
    private static final int NONE = SqueezedAnswers.NONE;
    private static final String THREE = "chip 3 2 2;column 0 0;column 1 1;column 2 0 1;";

    public static void main(String[] args) {
        Check check = new Check("Promise 13");
        notThere(check);
        isOut(check);
        none(check);
        leastBits(check);
        noneOfSome(check);
        noneOut(check);
        check.finish();
    }

    private static void notThere(Check check) {
        check.sentence("BAD: also a CHAIN that is not there");
        for (Past past : Past.values()) {
            for (int some : Check.outside(1 << past.chains)) {
                check.unchanged("hides " + some, past, BAD, x -> x.hides(some));
            }
        }
        for (int chains = 1; chains <= 8; chains++) {
            SqueezedAnswers x = Check.of("chip " + chains + " 1 1;");
            int all = (1 << chains) - 1;
            check.due("all of " + chains, x.hides(all), NONE);
            check.due("all but the first", x.hides(all - 1), 1);
            check.due("one more than all", x.hides(all + 1), BAD);
            check.due("one more, and one", x.hides(all + 2), BAD);
        }
    }

    private static void isOut(Check check) {
        check.sentence("BAD: also a CHAIN that is OUT");
        check.unchanged("hides 4", Past.MIXED, BAD, x -> x.hides(4));
        check.unchanged("hides 5", Past.MIXED, BAD, x -> x.hides(5));
        check.unchanged("hides 3", Past.MIXED, NONE, x -> x.hides(3));
        check.unchanged("hides 0", Past.MIXED, 2, x -> x.hides(0));
        check.unchanged("hides 1", Past.LARGEST, BAD, x -> x.hides(1));
        check.unchanged("hides 128", Past.LARGEST, BAD, x -> x.hides(128));
        SqueezedAnswers x = Check.of(THREE);
        x.out(7);
        check.due("all are out", x.hides(1), BAD);
    }

    private static void none(Check check) {
        check.sentence("NONE");
        check.unchanged("no chains", Past.FRESH, NONE, x -> x.hides(0));
        SqueezedAnswers x = Check.of(THREE);
        check.due("beside all", x.hides(7), NONE);
        x.out(1);
        check.due("nothing hides", x.hides(0), NONE);
        x.out(7);
        check.due("all are out", x.hides(0), NONE);
    }

    private static void leastBits(Check check) {
        check.sentence("The least bits of CHAINS (one at least) with errors that are HIDDEN");
        SqueezedAnswers x = Check.of(THREE);
        check.due("three", x.hides(0), 7);
        check.due("beside the third", x.hides(4), 1);
        SqueezedAnswers least = Check.of("chip 4 1 2;column 0 0;column 1 0;column 2 0 1;");
        check.due("two that are less than one", least.hides(0), 3);
        least.put(1, 3);
        check.due("two of higher ones", least.hides(0), 6);
        SqueezedAnswers last = Check.of("chip 8 1 8;");
        for (int c = 0; c < 7; c++) {
            last.put(c, 1 << c);
        }
        check.due("the last alone", last.hides(0), 128);
        last.put(7, 127);
        check.due("all eight", last.hides(0), 255);
    }

    private static void noneOfSome(Check check) {
        check.sentence("none of some");
        SqueezedAnswers x = Check.of(THREE);
        check.due("beside the first", x.hides(1), 6);
        check.due("beside the second", x.hides(2), 5);
        check.due("beside the first two", x.hides(3), 4);
        x.put(0, 0);
        check.due("the first goes nowhere", x.hides(0), 1);
        check.due("but is one of some", x.hides(1), NONE);
    }

    private static void noneOut(Check check) {
        check.sentence("none OUT");
        SqueezedAnswers x = Check.of("chip 2 1 1;column 1 0;");
        check.due("the first goes nowhere", x.hides(0), 1);
        x.out(1);
        check.due("but is out", x.hides(0), NONE);
        SqueezedAnswers y = Check.of(THREE);
        y.out(1);
        check.due("the second beside the third", y.hides(4), 2);
    }
}
