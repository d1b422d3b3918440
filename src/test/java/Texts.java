/** Texts that are taken or refused, for the tests of promises 4 and 5. */
final class Texts {
    private Texts() {
    }

    /** It is taken, with so many lines, whatever there was. */
    static SqueezedAnswers taken(Check check, String text, int lines) {
        SqueezedAnswers x = Past.MIXED.make();
        x.end(0);
        check.due("text \"" + text + "\"", Check.tell(x, text), lines);
        check.due("fault of \"" + text + "\"", x.fault(), 0);
        check.due("bytes behind \"" + text + "\"", x.count(2), 0);
        return x;
    }

    /** It is refused by a fault at a place; the tape is empty then, and nothing else has changed. */
    static void refused(Check check, String text, int fault, int place) {
        for (Past past : new Past[] {Past.FRESH, Past.MIXED}) {
            SqueezedAnswers x = past.make();
            int torn = x.torn();
            x.end(0);
            check.due("text \"" + text + "\"", Check.tell(x, text), -10 - place);
            check.due("fault of \"" + text + "\"", x.fault(), fault);
            check.due("bytes behind \"" + text + "\"", x.count(2), 0);
            check.due("torn behind \"" + text + "\"", x.torn(), torn);
            for (Look look : Look.values()) {
                if (look != Look.FAULTS) {
                    check.same("text \"" + text + "\" on " + past, look, past, y -> toldAnew(y, text), y -> y.end(0));
                }
            }
        }
    }

    private static int toldAnew(SqueezedAnswers x, String text) {
        x.end(0);
        return Check.tell(x, text);
    }

    static void rules(Check check, SqueezedAnswers x, int... rules) {
        for (int what = 0; what < rules.length; what++) {
            check.due("rule " + what, x.rule(what), rules[what]);
        }
    }

    /** A text of so many bytes, with blanks behind it. */
    static String filled(String text, int bytes) {
        return text + " ".repeat(bytes - text.length());
    }
}
