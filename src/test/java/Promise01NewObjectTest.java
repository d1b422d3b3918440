/** Promise 1: a new object, and what the terms say is so at first. */
public final class Promise01NewObjectTest {
    private static final int BAD = SqueezedAnswers.BAD;
    private static final int NONE = SqueezedAnswers.NONE;
    private static final int STATE = SqueezedAnswers.STATE;
    private static final Past FRESH = Past.FRESH;

    public static void main(String[] args) {
        Check check = new Check("Promise 1");
        noChains(check);
        atFirst(check);
        nothingToTell(check);
        noChainIsThere(check);
        sheetsOfNothing(check);
        noImages(check);
        check.finish();
    }

    private static void noChains(Check check) {
        check.sentence("No CHAINS");
        check.unchanged("CHAINS", FRESH, 0, x -> x.rule(0));
        check.unchanged("LENGTH", FRESH, 0, x -> x.rule(1));
        check.unchanged("OUTPUTS", FRESH, 0, x -> x.rule(2));
        check.unchanged("OUT", FRESH, 0, x -> x.rule(3));
        check.unchanged("CELLS that have 2", FRESH, 0, x -> x.rule(7));
    }

    private static void atFirst(Check check) {
        check.sentence("BITS 4 at first, TAPS 1 at first, POLY 1 at first");
        check.unchanged("BITS", FRESH, 4, x -> x.rule(4));
        check.unchanged("TAPS", FRESH, 1, x -> x.rule(5));
        check.unchanged("POLY", FRESH, 1, x -> x.rule(6));
        check.sentence("a CELL has 2 at first, its WANT is 2 at first");
        SqueezedAnswers x = Check.of("chip 8 8 8;");
        for (int c = 0; c < 8; c++) {
            for (int t = 0; t < 8; t++) {
                check.due("cell", x.cell(c, t, 0), 2);
                check.due("want", x.cell(c, t, 1), 2);
            }
        }
    }

    private static void nothingToTell(Check check) {
        check.sentence("No CHAINS: there is nothing of which to tell");
        check.unchanged("fault", FRESH, 0, x -> x.fault());
        check.unchanged("torn", FRESH, 0, x -> x.torn());
        check.unchanged("watched", FRESH, 0, x -> x.watched());
        check.unchanged("best", FRESH, 0, x -> x.best());
        for (int what = 0; what < 3; what++) {
            int asked = what;
            check.unchanged("weak " + what, FRESH, 0, x -> x.weak(asked));
            check.unchanged("alias " + what, FRESH, 0, x -> x.alias(asked));
        }
        check.unchanged("choices", FRESH, 0, x -> x.hidden(1, 0, 0));
        check.unchanged("hidden", FRESH, 0, x -> x.hidden(1, 0, 1));
        check.unchanged("sure", FRESH, 8, x -> x.sure(0));
        check.unchanged("hides", FRESH, NONE, x -> x.hides(0));
        check.unchanged("seed", FRESH, 0, x -> x.seed(0));
        check.unchanged("how many seeds", FRESH, 4, x -> x.seed(1));
        check.unchanged("signature", FRESH, 0, x -> x.signature());
        check.unchanged("draw", FRESH, 0, x -> x.draw(5));
        check.unchanged("out", FRESH, 0, x -> x.out(0));
    }

    private static void noChainIsThere(Check check) {
        check.sentence("BAD: there is no such CHAIN");
        check.unchanged("cell", FRESH, BAD, x -> x.cell(0, 0, 0));
        check.unchanged("column", FRESH, BAD, x -> x.column(0));
        check.unchanged("seen", FRESH, BAD, x -> x.seen(0, 0));
        check.unchanged("hides", FRESH, BAD, x -> x.hides(1));
        check.unchanged("set", FRESH, BAD, x -> x.set(0, 0, 0));
        check.unchanged("put", FRESH, BAD, x -> x.put(0, 0));
        check.unchanged("out", FRESH, BAD, x -> x.out(1));
        check.unchanged("want", FRESH, BAD, x -> x.want(0, 0, 0));
        check.unchanged("brought", FRESH, BAD, x -> x.brought(0, 0, 0));
        check.unchanged("suspects", FRESH, BAD, x -> x.suspects(0));
        check.unchanged("dump", FRESH, BAD, x -> x.dump(0, 0));
        check.unchanged("clear", FRESH, BAD, x -> x.clear(0));
    }

    private static void sheetsOfNothing(Check check) {
        check.sentence("SHEETS of nothing");
        for (int k = 0; k < 4; k++) {
            int sheet = k;
            check.unchanged("lay " + k, FRESH, -11, x -> x.lay(sheet, 0, 0));
            SqueezedAnswers x = new SqueezedAnswers();
            check.due("read " + k, x.read(k, 0, 0, 1), 0);
            check.due("torn of " + k, x.torn(), 1);
        }
        check.unchanged("cells of sheet 0", FRESH, NONE, x -> x.count(3));
    }

    private static void noImages(Check check) {
        check.sentence("no IMAGES, an empty TAPE");
        check.unchanged("images", FRESH, 0, x -> x.count(0));
        check.unchanged("back 0", FRESH, STATE, x -> x.back(0));
        check.unchanged("back 1", FRESH, STATE, x -> x.back(1));
        check.unchanged("bytes", FRESH, 0, x -> x.count(2));
        check.unchanged("ones", FRESH, 0, x -> x.count(1));
        check.unchanged("wants", FRESH, 0, x -> x.count(4));
        check.unchanged("bits of columns", FRESH, 0, x -> x.count(5));
    }
}
