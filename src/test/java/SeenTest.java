/** Promises 9 to 15: what is seen, hidden, watched. */
public final class SeenTest {
    private static final int BAD = SqueezedAnswers.BAD;
    private static final String THREE = "chip 3 2 2;column 0 0;column 1 1;column 2 0 1;";

    public static void main(String[] args) {
        Check check = new Check("SeenTest");
        seen(check);
        weak(check);
        hidden(check);
        sure(check);
        hides(check);
        watched(check);
        best(check);
        check.finish();
    }

    private static void seen(Check check) {
        SqueezedAnswers x = Check.of(THREE);
        Check.cells(x, 0, "12");
        Check.cells(x, 1, "01");
        Check.cells(x, 2, "10");
        check.due("1 and 1", x.seen(0, 0), 0);
        check.due("0 and 1", x.seen(0, 1), 1);
        check.due("2 and 0", x.seen(1, 0), 2);
        check.due("1 and 0", x.seen(1, 1), 1);
        x.out(1);
        check.due("only 0", x.seen(1, 0), 0);
        check.due("only 1", x.seen(0, 0), 1);
        x.out(7);
        check.due("none", x.seen(0, 0), 0);
        check.due("no cycle", x.seen(2, 0), BAD);
        check.due("no cycle below", x.seen(-1, 0), BAD);
        check.due("no output", x.seen(0, 2), BAD);
        check.due("no output below", x.seen(0, -1), BAD);
        SqueezedAnswers wide = Check.of("chip 1 3 2;column 0 1;cell 0 2 1;");
        check.due("the last cycle", wide.seen(2, 1), 1);
        check.due("behind the last cycle", wide.seen(3, 1), BAD);
        check.due("behind the last output", wide.seen(1, 2), BAD);
    }

    private static void weak(Check check) {
        SqueezedAnswers x = Check.of("chip 7 1 3;column 1 0;column 2 0 1;column 3 0;column 5 0;out 0 1;");
        check.due("of no output", x.weak(0), 3);
        check.due("even", x.weak(1), 4);
        check.due("the same", x.weak(2), 4);
        x.put(6, 5);
        check.due("another of no output", x.weak(0), 2);
        check.due("another even", x.weak(1), 4);
        check.due("another that is the same", x.weak(2), 3);
        check.due("below", x.weak(-1), BAD);
        check.due("above", x.weak(3), BAD);
    }

    private static void hidden(Check check) {
        SqueezedAnswers x = Check.of(THREE);
        check.due("choices", x.hidden(1, 1, 0), 6);
        check.due("choices of 1, 2", x.hidden(1, 2, 0), 3);
        check.due("choices of 2", x.hidden(2, 0, 0), 3);
        check.due("more than there are", x.hidden(2, 2, 0), 0);
        check.due("more errors than there are", x.hidden(8, 0, 0), 0);
        check.due("more unknown than there are", x.hidden(1, 8, 0), 0);
        check.due("none of one alone", x.hidden(1, 0, 1), 0);
        check.due("three add up", x.hidden(3, 0, 1), 1);
        check.due("behind the third", x.hidden(1, 1, 1), 2);
        check.due("behind two", x.hidden(1, 2, 1), 3);
        check.due("two behind one", x.hidden(2, 1, 1), 3);
        x.out(4);
        check.due("choices without the third", x.hidden(1, 1, 0), 2);
        check.due("hidden without the third", x.hidden(1, 1, 1), 0);
        x.put(0, 0);
        check.due("goes nowhere", x.hidden(1, 0, 1), 1);
        check.due("e below", x.hidden(0, 0, 0), BAD);
        check.due("e above", x.hidden(9, 0, 0), BAD);
        check.due("u below", x.hidden(1, -1, 0), BAD);
        check.due("u above", x.hidden(1, 9, 0), BAD);
        check.due("what below", x.hidden(1, 0, -1), BAD);
        check.due("what above", x.hidden(1, 0, 2), BAD);
        SqueezedAnswers both = Check.of("chip 3 1 2;column 0 0;column 1 0;column 2 0 1;");
        check.due("two that cover the same output", both.hidden(1, 2, 1), 2);
        check.due("two that cover, by their bits", both.hides(3), SqueezedAnswers.NONE);
        both.put(2, 1);
        check.due("all cover the same output", both.hidden(1, 2, 1), 3);
        check.due("the third beside both", both.hides(3), 4);
        SqueezedAnswers all = Check.of("chip 8 1 1;");
        check.due("3 and 3 of 8", all.hidden(3, 3, 0), 560);
        check.due("8 of 8", all.hidden(8, 0, 1), 1);
        check.due("1 and 7 of 8", all.hidden(1, 7, 1), 8);
    }

    private static void sure(Check check) {
        SqueezedAnswers x = Check.of(THREE);
        check.due("two alone", x.sure(0), 2);
        check.due("none beside one", x.sure(1), 0);
        check.due("no choice beside three", x.sure(3), 8);
        check.due("no choice beside eight", x.sure(8), 8);
        x.out(4);
        check.due("two that never meet", x.sure(0), 8);
        check.due("one beside one", x.sure(1), 8);
        x.put(1, 1);
        check.due("alike", x.sure(0), 1);
        check.due("alike beside one", x.sure(1), 0);
        check.due("below", x.sure(-1), BAD);
        check.due("above", x.sure(9), BAD);
        SqueezedAnswers seven = Check.of("chip 8 1 8;column 7 0 1 2 3 4 5 6;");
        for (int c = 0; c < 7; c++) {
            seven.put(c, 1 << c);
        }
        check.due("only all eight add up", seven.sure(0), 7);
        seven.put(7, 255);
        check.due("none of eight adds up", seven.sure(0), 8);
    }

    private static void hides(Check check) {
        SqueezedAnswers x = Check.of(THREE);
        check.due("three", x.hides(0), 7);
        check.due("beside the third", x.hides(4), 1);
        check.due("beside the first", x.hides(1), 6);
        check.due("beside the first two", x.hides(3), 4);
        check.due("beside all", x.hides(7), SqueezedAnswers.NONE);
        check.due("not there", x.hides(8), BAD);
        check.due("below", x.hides(-1), BAD);
        x.out(1);
        check.due("out", x.hides(1), BAD);
        check.due("nothing hides", x.hides(0), SqueezedAnswers.NONE);
        check.due("the second beside the third", x.hides(4), 2);
        SqueezedAnswers least = Check.of("chip 4 1 2;column 0 0;column 1 0;column 2 0 1;");
        check.due("the least bits, not the fewest", least.hides(0), 3);
    }

    private static void watched(Check check) {
        SqueezedAnswers x = Check.of(THREE);
        check.due("nothing known", x.watched(), 0);
        Check.cells(x, 0, "11");
        Check.cells(x, 1, "01");
        Check.cells(x, 2, "10");
        check.due("all", x.watched(), 6);
        x.set(0, 0, 2);
        check.due("one unknown", x.watched(), 5);
        x.set(2, 0, 2);
        check.due("two unknown", x.watched(), 3);
        x.out(4);
        check.due("the third out", x.watched(), 3);
        x.put(1, 0);
        check.due("the second goes nowhere", x.watched(), 1);
    }

    private static void best(Check check) {
        SqueezedAnswers x = Check.of("chip 3 2 1;column 0 0;column 1 0;column 2 0;");
        check.due("nothing known", x.best(), 0);
        Check.cells(x, 0, "11");
        Check.cells(x, 1, "22");
        Check.cells(x, 2, "12");
        check.due("without two of them", x.best(), 2);
        Check.cells(x, 2, "22");
        check.due("only the first", x.best(), 6);
        x.out(3);
        check.due("whatever is out", x.best(), 6);
        check.due("and out stays", x.rule(3), 3);
        Check.cells(x, 1, "11");
        x.put(2, 0);
        check.due("none need be", x.best(), 0);
        SqueezedAnswers tie = Check.of("chip 2 2 1;column 0 0;column 1 0;cell 0 0 1;cell 1 1 1;");
        check.due("of several the least", tie.best(), 1);
        SqueezedAnswers eight = Check.of("chip 8 1 1;column 0 0;column 7 0;cell 0 0 1;");
        check.due("the eighth", eight.best(), 128);
    }
}
