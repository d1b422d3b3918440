/** The largest chip, where every row is full to its end. */
public final class LargestTest {
    private static final String LARGEST = "chip 8 8 8;register 12 4095;poly 255;";

    public static void main(String[] args) {
        Check check = new Check("LargestTest");
        counts(check);
        seen(check);
        seeds(check);
        images(check);
        check.finish();
    }

    /** Each chain goes to its own output, and all its cells are v. */
    private static SqueezedAnswers filled(int v) {
        SqueezedAnswers x = Check.of(LARGEST);
        for (int c = 0; c < 8; c++) {
            x.put(c, 1 << c);
            for (int t = 0; t < 8; t++) {
                x.set(c, t, v);
            }
        }
        return x;
    }

    private static void counts(Check check) {
        SqueezedAnswers x = filled(1);
        check.due("ones", x.count(1), 64);
        check.due("unknown", x.rule(7), 0);
        check.due("no wants", x.count(4), 0);
        x.want(1, 0, 1);
        x.want(7, 7, 0);
        check.due("wants", x.count(4), 2);
        check.due("bits of columns", x.count(5), 8);
        x.put(7, 255);
        check.due("more bits of columns", x.count(5), 15);
        check.due("drawn", x.draw(3), x.rule(7));
    }

    private static void seen(Check check) {
        SqueezedAnswers x = filled(1);
        check.due("last of all", x.seen(7, 7), 1);
        check.due("watched", x.watched(), 64);
        check.due("best", x.best(), 0);
        check.due("none are hidden", x.hides(0), SqueezedAnswers.NONE);
        check.due("none are hidden beside the last", x.hides(128), SqueezedAnswers.NONE);
        check.due("sure", x.sure(0), 8);
        check.due("weak", x.weak(0) + x.weak(1) + x.weak(2), 0);
        x.put(7, 1);
        check.due("the last and the first", x.hides(0), 129);
        check.due("the last beside the first", x.hides(1), 128);
        check.due("the first beside the last", x.hides(128), 1);
        check.due("the same", x.weak(2), 1);
        x.set(7, 7, 2);
        check.due("one unknown hides two", x.watched(), 62);
        check.due("no signature", x.signature(), SqueezedAnswers.NONE);
        check.due("best is still none out", x.best(), 0);
        check.due("the last out", x.out(128), 0);
        check.due("seven chains are watched", x.watched(), 56);
        check.due("64 less 8 cells, less 7 bits and one from poly", x.alias(0), 48);
    }

    private static void seeds(Check check) {
        SqueezedAnswers x = Check.of(LARGEST);
        check.due("all seeds", x.seed(1), 12);
        for (int c = 0; c < 8; c++) {
            for (int t = 0; t < 8; t++) {
                x.want(c, t, Seeds.bit(2748, 12, 4095, c, t));
            }
        }
        check.due("64 wants", x.count(4), 64);
        check.due("the one seed", x.seed(0), 2748);
        check.due("just one", x.seed(1), 0);
        check.due("brought", x.brought(4095, 7, 7), Seeds.bit(4095, 12, 4095, 7, 7));
        check.due("suspects", x.suspects(7), 131071);
        check.due("dumped", x.dump(7, 255), 9);
        check.due("at any place with 1, or nowhere", x.suspects(7), 65536 + 0xAAAA);
        check.due("cleared", x.clear(7), 9);
    }

    private static void images(Check check) {
        SqueezedAnswers x = filled(1);
        x.keep(1);
        for (int c = 0; c < 8; c++) {
            for (int t = 0; t < 8; t++) {
                x.set(c, t, 0);
            }
        }
        check.due("all that is seen", x.differs(1, 0), 64);
        check.due("all cells", x.differs(1, 1), 64);
        check.due("signature of nothing", x.signature(), 0);
        check.due("back", x.back(1), 8);
        check.due("nothing seen", x.differs(1, 0), 0);
        check.due("no cells", x.differs(1, 1), 0);
        check.due("ones again", x.count(1), 64);
    }
}
