/** Promises 25 to 27: suspects, dumps, clear. */
public final class StickTest {
    private static final int BAD = SqueezedAnswers.BAD;
    private static final int NOWHERE = 65536;

    public static void main(String[] args) {
        Check check = new Check("StickTest");
        all(check);
        dumps(check);
        wrong(check);
        check.finish();
    }

    private static void all(Check check) {
        for (int length = 1; length <= 8; length++) {
            SqueezedAnswers x = Check.of("chip 2 " + length + " 1;");
            int all = NOWHERE + (1 << (2 * length)) - 1;
            check.due("all of length " + length, x.suspects(0), all);
            check.due("all of the other", x.suspects(1), all);
            x.dump(1, 0);
            check.due("the first stays", x.suspects(0), all);
            check.due("how many they were", x.clear(1), length + 1);
            check.due("all again", x.suspects(1), all);
            check.due("how many all are", x.clear(1), 2 * length + 1);
        }
    }

    private static void dumps(Check check) {
        SqueezedAnswers x = Check.of("chip 1 4 1;");
        Check.cells(x, 0, "1010");
        check.due("as it is", x.dump(0, 5), 2);
        check.due("nowhere, or at the last one", x.suspects(0), NOWHERE + 64);
        x.clear(0);
        check.due("ones", x.dump(0, 15), 2);
        check.due("at 0 or 1 with 1", x.suspects(0), 2 + 8);
        Check.cells(x, 0, "0010");
        check.due("cells changed", x.dump(0, 14), 1);
        check.due("at 1 with 1", x.suspects(0), 8);
        check.due("none fits", x.dump(0, 0), 0);
        check.due("no suspects", x.suspects(0), 0);
        check.due("none stay", x.dump(0, 14), 0);
        check.due("they were none", x.clear(0), 0);
        Check.cells(x, 0, "2122");
        check.due("2 is either", x.dump(0, 3), 2 + 1);
        check.due("at 2, 3 with 0, or nowhere", x.suspects(0), NOWHERE + 64 + 16);
        x.clear(0);
        check.due("against the 1", x.dump(0, 4), 0);
        SqueezedAnswers one = Check.of("chip 1 1 1;cell 0 0 0;");
        check.due("one cell", one.dump(0, 1), 1);
        check.due("with 1", one.suspects(0), 2);
    }

    private static void wrong(Check check) {
        SqueezedAnswers x = Check.of("chip 2 3 1;");
        int all = x.suspects(1);
        check.due("suspects of no chain", x.suspects(2), BAD);
        check.due("suspects below", x.suspects(-1), BAD);
        check.due("dump of no chain", x.dump(2, 0), BAD);
        check.due("dump below", x.dump(-1, 0), BAD);
        check.due("too many bits", x.dump(1, 8), BAD);
        check.due("bits below", x.dump(1, -1), BAD);
        check.due("clear of no chain", x.clear(2), BAD);
        check.due("clear below", x.clear(-1), BAD);
        check.due("nothing changed", x.suspects(1), all);
        check.due("most bits", x.dump(1, 7), 4);
    }
}
