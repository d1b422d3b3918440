/** Promise 23: signature. */
public final class Promise23SignatureTest {
    private static final int NONE = SqueezedAnswers.NONE;

    public static void main(String[] args) {
        Check check = new Check("Promise 23");
        noChains(check);
        twoSeenAnywhere(check);
        twoNotSeen(check);
        movedUp(check);
        cutAndPoly(check);
        changesNothing(check);
        check.finish();
    }

    private static void noChains(Check check) {
        check.sentence("SIGNATURE: 0; for each CYCLE: there is none");
        check.unchanged("signature", Past.FRESH, 0, x -> x.signature());
    }

    private static SqueezedAnswers ofZeros() {
        SqueezedAnswers x = Check.of("chip 8 8 8;");
        for (int c = 0; c < 8; c++) {
            x.put(c, 1 << c);
            Check.cells(x, c, "00000000");
        }
        return x;
    }

    private static void twoSeenAnywhere(Check check) {
        check.sentence("NONE: 2 is SEEN anywhere");
        SqueezedAnswers x = ofZeros();
        check.due("nowhere", x.signature(), 0);
        for (int i = 0; i < 64; i++) {
            x.set(i / 8, i % 8, 2);
            check.due("in cycle " + i % 8 + " at " + i / 8, x.signature(), NONE);
            x.set(i / 8, i % 8, 0);
        }
    }

    private static void twoNotSeen(Check check) {
        check.sentence("NONE: 2 is SEEN; what is OUT or goes nowhere is not");
        SqueezedAnswers x = ofZeros();
        x.set(7, 7, 2);
        x.out(128);
        check.due("kept out", x.signature(), 0);
        x.out(0);
        check.due("not kept out", x.signature(), NONE);
        x.put(7, 0);
        check.due("goes nowhere", x.signature(), 0);
        check.due("no columns, all unknown", Check.of("chip 8 8 8;").signature(), 0);
    }

    private static void movedUp(Check check) {
        check.sentence("for each CYCLE by order, it is moved up by one bit; what is SEEN at OUTPUT o to bit o");
        SqueezedAnswers one = ofZeros();
        for (int o = 0; o < 8; o++) {
            for (int t = o; t < 8; t++) {
                one.set(o, t, 1);
                check.due("output " + o + " in cycle " + t, one.signature(), 1 << (o + 7 - t));
                one.set(o, t, 0);
            }
        }
        one.set(7, 7, 1);
        check.due("it is not moved behind the last cycle", one.signature(), 128);
    }

    private static void cutAndPoly(Check check) {
        check.sentence("cut to as many bits as there are OUTPUTS; was the highest one 1, POLY is added (cut, too)");
        for (int outputs = 1; outputs <= 8; outputs++) {
            int all = (1 << outputs) - 1;
            int highest = outputs - 1;
            for (int poly : new int[] {0, 1, 1 << highest, all}) {
                SqueezedAnswers x = Check.of("chip 1 2 " + outputs + ";poly " + poly + ";column 0 " + highest
                    + ";cell 0 0 1;cell 0 1 0;");
                check.due("poly " + poly + " of " + outputs, x.signature(), poly);
                x.set(0, 1, 1);
                check.due("and the next one", x.signature(), poly ^ 1 << highest);
                x.put(0, all);
                x.set(0, 1, 0);
                check.due("all are moved", x.signature(), (all << 1 & all) ^ poly);
            }
        }
        SqueezedAnswers x = Check.of("chip 3 3 3;column 0 0;column 1 1;column 2 2;poly 5;");
        Check.cells(x, 0, "101");
        Check.cells(x, 1, "000");
        Check.cells(x, 2, "100");
        check.due("the highest one comes back as 5, then as 10 less 8 and 5", x.signature(), 1 ^ 4 ^ 7);
        SqueezedAnswers first = Check.of("chip 1 8 1;column 0 0;");
        Check.cells(first, 0, "10000000");
        check.due("POLY 1 at first, one OUTPUT: it stays", first.signature(), 1);
        Check.cells(first, 0, "10010000");
        check.due("twice is nothing", first.signature(), 0);
    }

    private static void changesNothing(Check check) {
        check.sentence("SIGNATURE: asking changes nothing");
        for (Past past : Past.values()) {
            int signature = past.make().signature();
            check.unchanged("signature", past, signature, x -> x.signature());
        }
    }
}
