/** Promise 25: suspects. */
public final class Promise25SuspectsTest {
    private static final int BAD = SqueezedAnswers.BAD;

    public static void main(String[] args) {
        Check check = new Check("Promise 25");
        chainBounds(check);
        allAtFirst(check);
        cellsMayChange(check);
        check.finish();
    }

    private static void chainBounds(Check check) {
        check.sentence("SUSPECTS of a CHAIN. BAD");
        for (Past past : Past.values()) {
            for (int c : Check.outside(past.chains)) {
                check.unchanged("suspects " + c, past, BAD, x -> x.suspects(c));
            }
        }
        for (int chains = 1; chains <= 8; chains++) {
            SqueezedAnswers x = Check.of("chip " + chains + " 1 1;");
            check.due("the last of " + chains, x.suspects(chains - 1), 65536 + 3);
            check.due("behind it", x.suspects(chains), BAD);
        }
    }

    private static void allAtFirst(Check check) {
        check.sentence("bit 2 p and VALUE for each PLACE p (0 to LENGTH less 1), bit 16 for nowhere (all at first)");
        for (int length = 1; length <= 8; length++) {
            SqueezedAnswers x = Check.of("chip 8 " + length + " 1;");
            int all = 65536;
            for (int place = 0; place < length; place++) {
                all += 3 << (2 * place);
            }
            for (int c = 0; c < 8; c++) {
                check.due("all of length " + length, x.suspects(c), all);
            }
        }
        check.unchanged("narrowed", Past.SMALLEST, 2, x -> x.suspects(0));
        check.unchanged("untouched", Past.MIXED, 65536 + 255, x -> x.suspects(0));
    }

    private static void cellsMayChange(Check check) {
        check.sentence("CELLS may change meanwhile");
        SqueezedAnswers x = Past.MIXED.make();
        int[] before = {x.suspects(0), x.suspects(1), x.suspects(2)};
        x.draw(1);
        x.set(0, 0, 0);
        x.put(0, 0);
        x.out(7);
        x.want(0, 0, 0);
        for (int c = 0; c < 3; c++) {
            check.due("suspects " + c, x.suspects(c), before[c]);
        }
    }
}
