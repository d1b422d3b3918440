/** Promise 5: fault. */
public final class Promise05FaultTest {
    private static final String[] REFUSED = {"$", ";", "poly 256;", "poly 0;poly 0;", "out 0;"};
    private static final int[] FAULTS = {1, 2, 3, 4, 6};

    public static void main(String[] args) {
        Check check = new Check("Promise 5");
        noneYet(check);
        latest(check);
        staysUntilAText(check);
        check.finish();
    }

    private static void noneYet(Check check) {
        check.sentence("0");
        check.unchanged("fault", Past.FRESH, 0, x -> x.fault());
        check.unchanged("fault", Past.SMALLEST, 0, x -> x.fault());
        check.unchanged("fault", Past.MIXED, 2, x -> x.fault());
        check.unchanged("fault", Past.LARGEST, 6, x -> x.fault());
        SqueezedAnswers x = new SqueezedAnswers();
        Check.feed(x, "$");
        check.due("no text has been read", x.fault(), 0);
    }

    private static void latest(Check check) {
        check.sentence("The FAULT of the latest text()");
        for (int i = 0; i < REFUSED.length; i++) {
            for (int j = 0; j < REFUSED.length; j++) {
                SqueezedAnswers x = new SqueezedAnswers();
                Check.tell(x, REFUSED[i]);
                check.due("fault of " + REFUSED[i], x.fault(), FAULTS[i]);
                Check.tell(x, REFUSED[j]);
                check.due("fault of " + REFUSED[j], x.fault(), FAULTS[j]);
                Check.tell(x, "chip 1 1 1;");
                check.due("fault of what is taken", x.fault(), 0);
            }
        }
        SqueezedAnswers x = Check.of("chip 1 1 1;");
        Check.tell(x, "$");
        check.due("an empty text", x.text(), 0);
        check.due("has no fault", x.fault(), 0);
    }

    private static void staysUntilAText(Check check) {
        check.sentence("of the latest text(): no other call changes it");
        SqueezedAnswers x = Check.of("chip 1 1 1;column 0 0;");
        x.keep(0);
        Check.tell(x, "poly 256;");
        x.feed('$');
        x.feed(128);
        x.end(0);
        x.end(9);
        x.set(0, 0, 1);
        x.set(0, 0, 3);
        x.keep(1);
        x.back(0);
        x.sheet(0, 0, 3);
        x.read(0, 1, 0, 1);
        x.draw(1);
        check.due("still the same", x.fault(), 3);
    }
}
