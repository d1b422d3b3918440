/** Promise 34: torn. */
public final class Promise34TornTest {
    private static final int BAD = SqueezedAnswers.BAD;

    public static void main(String[] args) {
        Check check = new Check("Promise 34");
        noneYet(check);
        latest(check);
        cameToAnEnd(check);
        staysUntilARead(check);
        check.finish();
    }

    private static void noneYet(Check check) {
        check.sentence("0");
        check.unchanged("torn", Past.FRESH, 0, x -> x.torn());
        check.unchanged("torn", Past.SMALLEST, 3, x -> x.torn());
        check.unchanged("torn", Past.MIXED, 2, x -> x.torn());
        SqueezedAnswers x = new SqueezedAnswers();
        check.due("a lay that is refused", x.lay(0, 0, 0), -11);
        check.due("a sheet that is refused", x.sheet(0, 0, -1), -14);
        check.due("no read has been", x.torn(), 0);
    }

    /** Reads that come to an end, by their faults: 0 whole, 1 NULL, 2 INDEX, 3 CAST. */
    private static int readWith(SqueezedAnswers x, int fault) {
        switch (fault) {
            case 1: return x.read(3, 0, 0, 1);
            case 2: return x.read(0, 0, 3, 1);
            case 3: return x.read(0, 1, 0, 1);
            default: return x.read(0, 0, 0, 1);
        }
    }

    private static SqueezedAnswers withSheet() {
        SqueezedAnswers x = Check.of("chip 1 1 1;");
        x.sheet(0, 0, 3);
        x.sheet(1, 0, 3);
        x.lay(1, 2, 3);
        return x;
    }

    private static void latest(Check check) {
        check.sentence("The FAULT of the latest read()");
        for (int first = 0; first < 4; first++) {
            for (int second = 0; second < 4; second++) {
                SqueezedAnswers x = withSheet();
                check.due("read", readWith(x, first), first == 0 ? 1 : 0);
                check.due("the first", x.torn(), first);
                check.due("read again", readWith(x, second), second == 0 ? 1 : 0);
                check.due("the second", x.torn(), second);
                check.due("asked again", x.torn(), second);
            }
        }
    }

    private static void cameToAnEnd(Check check) {
        check.sentence("that came to an end: one that is refused is none");
        for (int fault = 0; fault < 4; fault++) {
            SqueezedAnswers x = withSheet();
            readWith(x, fault);
            check.due("refused by set()", x.read(1, 0, 0, 1), -20);
            check.due("stays", x.torn(), fault);
            check.due("no such sheet", x.read(4, 0, 0, 1), BAD);
            check.due("no such lane", x.read(0, 3, 0, 1), BAD);
            check.due("too many", x.read(0, 0, 0, 14), BAD);
            check.due("below 0", x.read(0, 0, 0, -1), BAD);
            check.due("stays again", x.torn(), fault);
            check.due("of none", x.read(0, 0, 0, 0), 0);
            check.due("comes to an end", x.torn(), 0);
        }
    }

    private static void staysUntilARead(Check check) {
        check.sentence("of the latest read(): no other call changes it");
        for (int fault = 0; fault < 4; fault++) {
            SqueezedAnswers x = withSheet();
            readWith(x, fault);
            x.lay(0, 3, 0);
            x.lay(3, 0, 0);
            x.lay(0, 0, 0);
            x.sheet(0, 0, -1);
            x.sheet(0, 1, 3);
            x.set(0, 0, 3);
            x.set(0, 0, 1);
            x.keep(0);
            x.back(0);
            Check.tell(x, "$");
            Check.tell(x, "chip 1 1 1;");
            check.due("stays", x.torn(), fault);
        }
    }
}
