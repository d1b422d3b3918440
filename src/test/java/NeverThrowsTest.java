/** No call throws, whatever it is asked: numbers far off and at all edges, on every past, each with all others. */
public final class NeverThrowsTest {
    private static final int[] ODD = {Integer.MIN_VALUE, Integer.MIN_VALUE + 1, -41, -1, 0, 1, 2, 3, 7, 8, 9, 12, 13, 14,
        31, 32, 39, 40, 41, 127, 128, 255, 256, 4095, 4096, 65536, Integer.MAX_VALUE - 1, Integer.MAX_VALUE};

    public static void main(String[] args) {
        Check check = new Check("NeverThrows");
        check.sentence("LANGUAGE.md 7: No call may ever throw or fail to end, for any arguments in any state");
        for (Past past : Past.values()) {
            for (int a : ODD) {
                for (int b : ODD) {
                    SqueezedAnswers x = past.make();
                    askAll(x, a, b);
                    check.that("all calls of " + a + ", " + b + " came back on " + past, x.count(0) >= 0);
                }
            }
        }
        check.finish();
    }

    private static void askAll(SqueezedAnswers x, int a, int b) {
        x.feed(a); x.end(b); x.rule(a); x.cell(a, b, 0); x.cell(a, b, 2); x.cell(0, 0, a); x.column(a);
        x.seen(a, b); x.weak(a); x.hidden(a, b, 0); x.hidden(a, b, 1); x.hidden(1, 1, a); x.sure(a); x.hides(a);
        x.watched(); x.best(); x.set(a, b, 0); x.set(0, 0, a); x.put(a, b); x.out(a);
        x.want(a, b, 0); x.want(0, 0, b); x.brought(a, b, 0); x.brought(0, a, b); x.seed(a); x.seed(0);
        x.signature(); x.alias(a); x.alias(0); x.suspects(a); x.dump(a, b); x.clear(a); x.keep(a); x.back(a);
        x.differs(a, b); x.sheet(a, b, 3); x.sheet(0, 0, a); x.lay(a, b, a); x.lay(0, a, b);
        x.read(0, 0, a, 13); x.read(0, 1, a, 1); x.read(a, 0, b, 1); x.read(3, 2, a, b); x.torn();
        x.draw(a); x.count(a); x.text(); x.fault();
    }
}
