/** Promise 28: keep. */
public final class Promise28KeepTest {
    private static final int BAD = SqueezedAnswers.BAD;

    public static void main(String[] args) {
        Check check = new Check("Promise 28");
        imageBounds(check);
        whetherThereWasOne(check);
        allIsKept(check);
        ofItsOwn(check);
        thatImageAlone(check);
        check.finish();
    }

    private static void imageBounds(Check check) {
        check.sentence("IMAGE k (0, 1). BAD");
        for (Past past : Past.values()) {
            for (int k : Check.outside(2)) {
                check.unchanged("keep " + k, past, BAD, x -> x.keep(k));
            }
        }
    }

    private static void whetherThereWasOne(Check check) {
        check.sentence("whether there was one (1, 0)");
        for (int k = 0; k < 2; k++) {
            SqueezedAnswers x = new SqueezedAnswers();
            check.due("none was, of no chains", x.keep(k), 0);
            check.due("one is", x.count(0), 1);
            check.due("one was", x.keep(k), 1);
            check.due("still one", x.count(0), 1);
            check.due("the other was none", x.keep(1 - k), 0);
            check.due("both are", x.count(0), 2);
            check.due("a text takes both away", x.text(), 0);
            check.due("none was again", x.keep(k), 0);
            x.back(k);
            check.due("back leaves it", x.keep(k), 1);
        }
    }

    /** All that there is of the chip is as it was kept, whatever has come over it. */
    private static void allIsKept(Check check) {
        check.sentence("all CHAINS, CELLS, WANTS, COLUMNS, OUT, the REGISTER, POLY, SUSPECTS");
        for (Past past : Past.values()) {
            for (int k = 0; k < 2; k++) {
                int image = k;
                check.same("keep, spoil, back", Look.FAULTS, past, x -> kept(x, image), x -> x.keep(image));
                check.same("keep, spoil, back", Look.STATE, past, x -> kept(x, image), x -> x.keep(image));
                check.same("keep, spoil, back", Look.TAPE, past, x -> kept(x, image), x -> x.keep(image));
            }
        }
    }

    private static int kept(SqueezedAnswers x, int k) {
        x.keep(k);
        spoil(x);
        return x.back(k);
    }

    private static void spoil(SqueezedAnswers x) {
        int chains = x.rule(0);
        int length = x.rule(1);
        for (int c = 0; c < chains; c++) {
            x.put(c, 1 - (x.column(c) & 1));
            x.dump(c, 0);
            x.dump(c, 1);
            x.want(c, length - 1, 1);
            x.want(c, 0, 0);
        }
        x.draw(77);
        x.out((1 << chains) - 1 - x.rule(3));
    }

    private static void ofItsOwn(Check check) {
        check.sentence("IMAGE k is all: what changes later does not change it");
        SqueezedAnswers x = Check.of("chip 1 2 1;column 0 0;cell 0 0 1;");
        x.keep(0);
        x.set(0, 0, 0);
        x.keep(1);
        x.set(0, 0, 2);
        check.due("back 0", x.back(0), 1);
        check.due("cell of 0", x.cell(0, 0, 0), 1);
        x.set(0, 0, 2);
        check.due("back 1", x.back(1), 1);
        check.due("cell of 1", x.cell(0, 0, 0), 0);
        check.due("back 0 again", x.back(0), 1);
        check.due("cell of 0 again", x.cell(0, 0, 0), 1);
        x.keep(1);
        x.back(1);
        check.due("1 has been kept anew", x.cell(0, 0, 0), 1);
    }

    private static void thatImageAlone(Check check) {
        check.sentence("IMAGE k: nothing else changes");
        for (Past past : new Past[] {Past.MIXED, Past.LARGEST}) {
            for (Look look : Look.values()) {
                if (look != Look.IMAGE_0) {
                    check.same("keep 0", look, past, x -> x.keep(0), x -> 0);
                }
                if (look != Look.IMAGE_1) {
                    check.same("keep 1", look, past, x -> x.keep(1), x -> 0);
                }
            }
        }
    }
}
