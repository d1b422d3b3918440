/** Promise 3: end. */
public final class Promise03EndTest {
    private static final int BAD = SqueezedAnswers.BAD;
    private static final String TEXT = "chip 1 1 1;register 5 17;poly 1;";

    public static void main(String[] args) {
        Check check = new Check("Promise 3");
        howManyItHad(check);
        below(check);
        beyond(check);
        empty(check);
        full(check);
        firstBytes(check);
        cutBytesAreGone(check);
        check.finish();
    }

    private static void howManyItHad(Check check) {
        check.sentence("how many it had");
        SqueezedAnswers x = new SqueezedAnswers();
        Check.feed(x, "abc");
        check.due("all are kept", x.end(3), 3);
        check.due("one less", x.end(2), 3);
        check.due("two are left", x.count(2), 2);
        check.due("none is kept", x.end(0), 2);
        check.due("none is left", x.count(2), 0);
    }

    private static void below(Check check) {
        check.sentence("BAD: n below 0");
        for (Past past : Past.values()) {
            check.unchanged("end -1", past, BAD, x -> x.end(-1));
            check.unchanged("end of the least", past, BAD, x -> x.end(Integer.MIN_VALUE));
        }
    }

    private static void beyond(Check check) {
        check.sentence("BAD: more than it has, there are no first n bytes");
        for (Past past : Past.values()) {
            int has = past.make().count(2);
            check.unchanged("end of all", past, has, x -> x.end(has));
            check.unchanged("end of one more", past, BAD, x -> x.end(has + 1));
            check.unchanged("end of the most", past, BAD, x -> x.end(Integer.MAX_VALUE));
        }
    }

    private static void empty(Check check) {
        check.sentence("THE TAPE is empty");
        check.unchanged("end 0", Past.FRESH, 0, x -> x.end(0));
        check.unchanged("end 1", Past.FRESH, BAD, x -> x.end(1));
        check.unchanged("end 160", Past.FRESH, BAD, x -> x.end(160));
    }

    private static void full(Check check) {
        check.sentence("THE TAPE has 160 bytes");
        check.unchanged("end 160", Past.FULL_TAPE, 160, x -> x.end(160));
        check.unchanged("end 161", Past.FULL_TAPE, BAD, x -> x.end(161));
        SqueezedAnswers x = Past.FULL_TAPE.make();
        check.due("end 159", x.end(159), 160);
        check.due("159 are left", x.count(2), 159);
    }

    private static void firstBytes(Check check) {
        check.sentence("THE TAPE keeps its first n bytes");
        for (int n = 0; n <= TEXT.length(); n++) {
            SqueezedAnswers cut = new SqueezedAnswers();
            Check.feed(cut, TEXT);
            check.due("end " + n, cut.end(n), TEXT.length());
            SqueezedAnswers fed = new SqueezedAnswers();
            Check.feed(fed, TEXT.substring(0, n));
            check.due("text of the first " + n, cut.text(), fed.text());
            check.due("fault of the first " + n, cut.fault(), fed.fault());
            check.due("taps of the first " + n, cut.rule(5), fed.rule(5));
        }
    }

    private static void cutBytesAreGone(Check check) {
        check.sentence("what is cut is not read");
        SqueezedAnswers x = new SqueezedAnswers();
        Check.feed(x, "poly 0;out");
        x.end(6);
        check.due("a line's end is cut", x.text(), -16);
        Check.feed(x, "poly 0000;");
        x.end(6);
        x.feed(';');
        check.due("another end comes", x.text(), 1);
        Check.feed(x, "polyx");
        x.end(4);
        check.due("a name's end is cut", x.text(), -14);
        Check.feed(x, "poly 00000");
        x.end(9);
        check.due("a number's end is cut", x.text(), -19);
    }
}
