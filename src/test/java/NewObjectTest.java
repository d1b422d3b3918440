/** Promise 1: a new object, asked by every method; and numbers far off everywhere. */
public final class NewObjectTest {
    private static final int[] ODD = {Integer.MIN_VALUE, -1000, -1, 8, 9, 13, 40, 41, 1000, Integer.MAX_VALUE};

    public static void main(String[] args) {
        Check check = new Check("NewObjectTest");
        tellsNothing(check);
        hasNoChains(check);
        neverThrows(check);
        check.finish();
    }

    private static void tellsNothing(Check check) {
        SqueezedAnswers x = new SqueezedAnswers();
        int[] rules = {0, 0, 0, 0, 4, 1, 1, 0};
        for (int what = 0; what < rules.length; what++) {
            check.due("rule " + what, x.rule(what), rules[what]);
        }
        int[] counts = {0, 0, 0, SqueezedAnswers.NONE, 0, 0};
        for (int what = 0; what < counts.length; what++) {
            check.due("count " + what, x.count(what), counts[what]);
        }
        check.due("fault", x.fault(), 0);
        check.due("torn", x.torn(), 0);
        check.due("watched", x.watched(), 0);
        check.due("best", x.best(), 0);
        check.due("weak", x.weak(0) + x.weak(1) + x.weak(2), 0);
        check.due("hidden", x.hidden(1, 0, 0) + x.hidden(1, 0, 1), 0);
        check.due("sure", x.sure(0), 8);
        check.due("hides", x.hides(0), SqueezedAnswers.NONE);
        check.due("seed least", x.seed(0), 0);
        check.due("seed how many", x.seed(1), 4);
        check.due("signature", x.signature(), 0);
        check.due("alias", x.alias(0) + x.alias(1) + x.alias(2), 0);
        check.due("draw", x.draw(5), 0);
        check.due("out of none", x.out(0), 0);
        for (int k = 0; k < 4; k++) {
            check.due("lay " + k, x.lay(k, 0, 0), -11);
        }
        check.due("back 0", x.back(0), SqueezedAnswers.STATE);
        check.due("back 1", x.back(1), SqueezedAnswers.STATE);
    }

    private static void hasNoChains(Check check) {
        SqueezedAnswers x = new SqueezedAnswers();
        int bad = SqueezedAnswers.BAD;
        check.due("cell", x.cell(0, 0, 0), bad);
        check.due("column", x.column(0), bad);
        check.due("seen", x.seen(0, 0), bad);
        check.due("hides", x.hides(1), bad);
        check.due("set", x.set(0, 0, 0), bad);
        check.due("put", x.put(0, 0), bad);
        check.due("out", x.out(1), bad);
        check.due("want", x.want(0, 0, 0), bad);
        check.due("brought", x.brought(0, 0, 0), bad);
        check.due("suspects", x.suspects(0), bad);
        check.due("dump", x.dump(0, 0), bad);
        check.due("clear", x.clear(0), bad);
    }

    private static void neverThrows(Check check) {
        String whole = "chip 8 8 8;register 12 4095;poly 255;column 7 0 1 2 3 4 5 6 7;";
        for (int a : ODD) {
            for (int b : ODD) {
                askAll(new SqueezedAnswers(), a, b);
                askAll(Check.of(whole), a, b);
            }
        }
        check.that("no call threw", true);
    }

    private static void askAll(SqueezedAnswers x, int a, int b) {
        x.feed(a); x.end(b); x.rule(a); x.cell(a, b, 0); x.cell(0, 0, a); x.column(a);
        x.seen(a, b); x.weak(a); x.hidden(a, b, 0); x.hidden(1, 1, a); x.sure(a); x.hides(a);
        x.watched(); x.best(); x.set(a, b, 0); x.set(0, 0, a); x.put(a, b); x.out(a);
        x.want(a, b, 0); x.want(0, 0, b); x.brought(a, b, 0); x.brought(0, a, b); x.seed(a);
        x.signature(); x.alias(a); x.suspects(a); x.dump(a, b); x.clear(a); x.keep(a); x.back(a);
        x.differs(a, b); x.sheet(a, b, 3); x.sheet(0, 0, a); x.lay(a, b, a); x.lay(0, a, b);
        x.read(0, 0, a, 13); x.read(0, 1, a, 1); x.read(a, 0, b, 1); x.read(3, 0, a, b); x.torn();
        x.draw(a); x.count(a); x.text(); x.fault();
    }
}
