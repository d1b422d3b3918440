/** Promise 17: put. */
public final class Promise17PutTest {
    private static final int BAD = SqueezedAnswers.BAD;

    public static void main(String[] args) {
        Check check = new Check("Promise 17");
        chainBounds(check);
        outputBounds(check);
        whatItWas(check);
        thatColumnAlone(check);
        check.finish();
    }

    private static void chainBounds(Check check) {
        check.sentence("COLUMN of a CHAIN. BAD: there is no such CHAIN");
        for (Past past : Past.values()) {
            for (int c : Check.outside(past.chains)) {
                check.unchanged("put " + c + ", 0", past, BAD, x -> x.put(c, 0));
                check.unchanged("put " + c + ", 1", past, BAD, x -> x.put(c, 1));
            }
        }
        for (int chains = 1; chains <= 8; chains++) {
            SqueezedAnswers x = Check.of("chip " + chains + " 1 1;");
            check.due("the last of " + chains, x.put(chains - 1, 1), 0);
            check.due("behind it", x.put(chains, 1), BAD);
        }
    }

    private static void outputBounds(Check check) {
        check.sentence("some (bits of OUTPUTS there are). BAD");
        for (Past past : Past.values()) {
            for (int some : Check.outside(1 << past.outputs)) {
                check.unchanged("put 0, " + some, past, BAD, x -> x.put(0, some));
            }
        }
        for (int outputs = 1; outputs <= 8; outputs++) {
            SqueezedAnswers x = Check.of("chip 1 1 " + outputs + ";");
            int all = (1 << outputs) - 1;
            check.due("all of " + outputs, x.put(0, all), 0);
            check.due("one more", x.put(0, all + 1), BAD);
            check.due("one more, and one", x.put(0, all + 2), BAD);
            check.due("all, and far more", x.put(0, all | 1 << 30), BAD);
            check.due("all and the sign", x.put(0, all | Integer.MIN_VALUE), BAD);
            check.due("none", x.put(0, 0), all);
        }
    }

    private static void whatItWas(Check check) {
        check.sentence("becomes some: what it was");
        SqueezedAnswers x = Check.of("chip 2 1 8;column 1 0;");
        int was = 1;
        for (int some = 255; some >= 0; some--) {
            check.due("was", x.put(1, some), was);
            was = some;
        }
        check.due("is", x.column(1), 0);
    }

    private static void thatColumnAlone(Check check) {
        check.sentence("COLUMN of a CHAIN becomes some: nothing else changes");
        for (Look look : Look.values()) {
            check.same("put there and back", look, Past.MIXED, x -> x.put(2, 1) + x.put(2, 3), x -> 0);
        }
        for (Look look : new Look[] {Look.FAULTS, Look.IMAGE_0, Look.IMAGE_1, Look.TAPE}) {
            check.same("put", look, Past.MIXED, x -> x.put(2, 0), x -> 0);
        }
        SqueezedAnswers x = Past.LARGEST.make();
        x.put(3, 0);
        for (int c = 0; c < 8; c++) {
            check.due("column " + c, x.column(c), c == 3 ? 0 : 37 * c & 255);
        }
    }
}
