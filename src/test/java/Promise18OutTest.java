/** Promise 18: out. */
public final class Promise18OutTest {
    private static final int BAD = SqueezedAnswers.BAD;

    public static void main(String[] args) {
        Check check = new Check("Promise 18");
        chainBounds(check);
        whatItWas(check);
        outAlone(check);
        check.finish();
    }

    private static void chainBounds(Check check) {
        check.sentence("some (bits of CHAINS there are). BAD");
        for (Past past : Past.values()) {
            for (int some : Check.outside(1 << past.chains)) {
                check.unchanged("out " + some, past, BAD, x -> x.out(some));
            }
        }
        for (int chains = 1; chains <= 8; chains++) {
            SqueezedAnswers x = Check.of("chip " + chains + " 1 1;");
            int all = (1 << chains) - 1;
            check.due("all of " + chains, x.out(all), 0);
            check.due("one more", x.out(all + 1), BAD);
            check.due("one more, and one", x.out(all + 2), BAD);
            check.due("all, and far more", x.out(all | 1 << 30), BAD);
            check.due("all and the sign", x.out(all | Integer.MIN_VALUE), BAD);
            check.due("none", x.out(0), all);
        }
        check.sentence("bits of CHAINS there are: none is there");
        check.unchanged("out 0", Past.FRESH, 0, x -> x.out(0));
        check.unchanged("out 1", Past.FRESH, BAD, x -> x.out(1));
    }

    private static void whatItWas(Check check) {
        check.sentence("OUT becomes some: what it was");
        SqueezedAnswers x = Check.of("chip 8 1 1;out 1;");
        int was = 2;
        for (int some = 255; some >= 0; some--) {
            check.due("was", x.out(some), was);
            was = some;
        }
        SqueezedAnswers y = Check.of("chip 3 1 1;out 1;");
        check.due("was told", y.out(7), 2);
        check.due("is", y.rule(3), 7);
        check.due("was all", y.out(0), 7);
        check.due("is none", y.rule(3), 0);
    }

    private static void outAlone(Check check) {
        check.sentence("OUT becomes some: nothing else changes");
        for (Look look : Look.values()) {
            check.same("out and back", look, Past.MIXED, x -> x.out(7) + x.out(4), x -> 0);
        }
        for (Look look : new Look[] {Look.FAULTS, Look.IMAGE_0, Look.IMAGE_1, Look.TAPE}) {
            check.same("out", look, Past.MIXED, x -> x.out(3), x -> 0);
        }
    }
}
