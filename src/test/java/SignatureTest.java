import java.util.Random;

/** Promises 23 and 24: signatures, and errors that leave them as they are. */
public final class SignatureTest {
    private static final int BAD = SqueezedAnswers.BAD;

    public static void main(String[] args) {
        Check check = new Check("SignatureTest");
        signature(check);
        alias(check);
        againstAllErrors(check);
        check.finish();
    }

    private static void signature(Check check) {
        SqueezedAnswers x = Check.of("chip 3 3 3;column 0 0;column 1 1;column 2 2;poly 5;");
        Check.cells(x, 0, "000");
        Check.cells(x, 1, "000");
        Check.cells(x, 2, "000");
        check.due("nothing", x.signature(), 0);
        x.set(0, 2, 1);
        check.due("in the last cycle", x.signature(), 1);
        x.set(0, 0, 1);
        check.due("moved up twice", x.signature(), 5);
        x.set(2, 0, 1);
        check.due("the highest one comes back as 5, then as 10 less 8 and 5", x.signature(), 5 ^ 7);
        x.set(1, 1, 2);
        check.due("2 is seen", x.signature(), SqueezedAnswers.NONE);
        x.out(2);
        check.due("kept out", x.signature(), 2);
        x.out(0);
        x.put(1, 0);
        check.due("goes nowhere", x.signature(), 2);
        SqueezedAnswers one = Check.of("chip 1 3 1;column 0 0;poly 0;cell 0 0 1;cell 0 1 0;cell 0 2 0;");
        check.due("poly 0 loses it", one.signature(), 0);
    }

    private static void alias(Check check) {
        SqueezedAnswers x = Check.of("chip 3 2 2;column 0 0;column 1 1;column 2 0 1;");
        check.due("six cells, two bits", x.alias(0), 4);
        check.due("none of one", x.alias(1), 0);
        check.due("three of two", x.alias(2), 3);
        x.put(0, 0);
        check.due("still two bits", x.alias(0), 4);
        check.due("two of one", x.alias(1), 2);
        check.due("of two", x.alias(2), 2);
        x.out(1);
        check.due("kept out", x.alias(0), 2);
        check.due("kept out of one", x.alias(1), 0);
        x.out(7);
        check.due("all out", x.alias(0), 0);
        check.due("all out of two", x.alias(2), 0);
        check.due("what below", x.alias(-1), BAD);
        check.due("what above", x.alias(3), BAD);
        SqueezedAnswers most = Check.of("chip 8 8 8;poly 0;");
        check.due("64 that go nowhere", most.alias(0), 64);
        check.due("64 of one", most.alias(1), 64);
        check.due("64 times 63 by 2", most.alias(2), 2016);
    }

    private static void againstAllErrors(Check check) {
        Random random = new Random(24);
        for (int run = 0; run < 150; run++) {
            int length = 1 + random.nextInt(6);
            int chains = 1 + random.nextInt(Math.min(8, 12 / length));
            int outputs = 1 + random.nextInt(8);
            SqueezedAnswers x = Check.of("chip " + chains + " " + length + " " + outputs + ";poly "
                + random.nextInt(1 << outputs) + ";");
            for (int c = 0; c < chains; c++) {
                x.put(c, random.nextInt(1 << outputs));
            }
            x.out(random.nextInt(3) == 0 ? random.nextInt(1 << chains) : 0);
            int[] same = sameSignatures(x, chains, length);
            check.due("all rows of run " + run, 1 << x.alias(0), same[0]);
            check.due("rows of one of run " + run, x.alias(1), same[1]);
            check.due("rows of two of run " + run, x.alias(2), same[2]);
        }
    }

    /** Tries all rows of errors on cells that are 0: how many there are, of one error, of two. */
    private static int[] sameSignatures(SqueezedAnswers x, int chains, int length) {
        int[] found = new int[3];
        int cells = chains * length;
        for (int row = 0; row < 1 << cells; row++) {
            boolean inside = true;
            for (int i = 0; i < cells; i++) {
                int v = (row >> i) & 1;
                inside &= v == 0 || ((x.rule(3) >> (i / length)) & 1) == 0;
                x.set(i / length, i % length, v);
            }
            if (inside && x.signature() == 0) {
                found[0]++;
                int errors = Integer.bitCount(row);
                if (errors == 1 || errors == 2) {
                    found[errors]++;
                }
            }
        }
        return found;
    }
}
