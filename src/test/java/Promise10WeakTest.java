/** Promise 10: weak. */
public final class Promise10WeakTest {
    public static void main(String[] args) {
        Check check = new Check("Promise 10");
        whatBounds(check);
        ofNoOutput(check);
        evenNumber(check);
        sameAsLower(check);
        ofAll(check);
        check.finish();
    }

    private static void whatBounds(Check check) {
        check.sentence("what 0, 1, 2. BAD");
        for (Past past : Past.values()) {
            for (int what : Check.outside(3)) {
                check.unchanged("weak " + what, past, SqueezedAnswers.BAD, x -> x.weak(what));
            }
        }
        check.unchanged("weak 0", Past.MIXED, 1, x -> x.weak(0));
        check.unchanged("weak 1", Past.MIXED, 3, x -> x.weak(1));
        check.unchanged("weak 2", Past.MIXED, 1, x -> x.weak(2));
    }

    private static void ofNoOutput(Check check) {
        check.sentence("have a COLUMN of no OUTPUT (what 0)");
        SqueezedAnswers x = Check.of("chip 8 1 8;");
        check.due("all", x.weak(0), 8);
        for (int c = 0; c < 8; c++) {
            x.put(c, 1 << c);
            check.due("less " + (c + 1), x.weak(0), 7 - c);
        }
    }

    private static void evenNumber(Check check) {
        check.sentence("of an even number of them (1; 0 is even)");
        for (int bits = 0; bits <= 8; bits++) {
            SqueezedAnswers x = Check.of("chip 1 1 8;");
            x.put(0, (1 << bits) - 1);
            check.due(bits + " outputs", x.weak(1), bits % 2 == 0 ? 1 : 0);
        }
        SqueezedAnswers all = Check.of("chip 8 1 8;");
        check.due("all of none", all.weak(1), 8);
    }

    private static void sameAsLower(Check check) {
        check.sentence("the same as one with a lower number (2)");
        SqueezedAnswers x = Check.of("chip 8 1 8;");
        check.due("all of none: all but the first", x.weak(2), 7);
        for (int c = 0; c < 8; c++) {
            x.put(c, 1 << c);
        }
        check.due("all others", x.weak(2), 0);
        x.put(7, 1);
        check.due("the last as the first", x.weak(2), 1);
        x.put(6, 1);
        check.due("the last two as the first", x.weak(2), 2);
        x.put(0, 255);
        check.due("the last as the last but one", x.weak(2), 1);
        x.put(7, 255);
        check.due("as the first again", x.weak(2), 1);
    }

    private static void ofAll(Check check) {
        check.sentence("How many CHAINS, of all");
        SqueezedAnswers x = Check.of("chip 7 1 3;column 1 0;column 2 0 1;column 3 0;column 5 0;");
        for (int out : new int[] {0, 1, 3, 127}) {
            x.out(out);
            check.due("of no output, out " + out, x.weak(0), 3);
            check.due("even, out " + out, x.weak(1), 4);
            check.due("the same, out " + out, x.weak(2), 4);
        }
    }
}
