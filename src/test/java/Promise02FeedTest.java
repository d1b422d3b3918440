/** Promise 2: feed. */
public final class Promise02FeedTest {
    private static final int BAD = SqueezedAnswers.BAD;
    private static final int FULL = SqueezedAnswers.FULL;

    public static void main(String[] args) {
        Check check = new Check("Promise 2");
        byteBounds(check);
        howManyItHas(check);
        full(check);
        badAheadOfFull(check);
        behindTheTape(check);
        check.finish();
    }

    private static void byteBounds(Check check) {
        check.sentence("A byte (0 to 127); BAD");
        for (int c = 0; c <= 127; c++) {
            check.due("feed " + c, new SqueezedAnswers().feed(c), 1);
        }
        for (Past past : Past.values()) {
            for (int c : new int[] {-1, 128, 255, 256, 256 + ';', -256 + ';', Integer.MIN_VALUE, Integer.MAX_VALUE}) {
                check.unchanged("feed " + c, past, BAD, x -> x.feed(c));
            }
        }
    }

    private static void howManyItHas(Check check) {
        check.sentence("how many it has");
        SqueezedAnswers x = new SqueezedAnswers();
        for (int i = 1; i <= 160; i++) {
            check.due("byte " + i, x.feed('a'), i);
        }
        x.text();
        check.due("behind a text", x.feed('a'), 1);
        x.feed('a');
        x.end(1);
        check.due("behind an end", x.feed('a'), 2);
    }

    private static void full(Check check) {
        check.sentence("FULL: more than 160");
        SqueezedAnswers x = new SqueezedAnswers();
        for (int i = 1; i < 160; i++) {
            x.feed(' ');
        }
        check.due("the last that fits", x.feed(' '), 160);
        check.due("one more", x.feed(' '), FULL);
        check.due("still 160", x.count(2), 160);
        check.due("one is taken away", x.end(159), 160);
        check.due("it fits again", x.feed(' '), 160);
        check.due("one more again", x.feed('$'), FULL);
        check.due("what was refused is not read", x.text(), 0);
        check.unchanged("feed ;", Past.FULL_TAPE, FULL, y -> y.feed(';'));
        check.unchanged("feed 0", Past.FULL_TAPE, FULL, y -> y.feed(0));
        check.unchanged("feed 127", Past.FULL_TAPE, FULL, y -> y.feed(127));
    }

    private static void badAheadOfFull(Check check) {
        check.sentence("BAD, FULL, the first that fits");
        check.unchanged("feed below", Past.FULL_TAPE, BAD, x -> x.feed(-1));
        check.unchanged("feed above", Past.FULL_TAPE, BAD, x -> x.feed(128));
    }

    private static void behindTheTape(Check check) {
        check.sentence("comes behind THE TAPE");
        SqueezedAnswers x = new SqueezedAnswers();
        Check.feed(x, "register 5 17;poly 0");
        x.feed(';');
        check.due("text", x.text(), 2);
        check.due("bits", x.rule(4), 5);
        check.due("taps", x.rule(5), 17);
        check.due("poly", x.rule(6), 0);
    }
}
