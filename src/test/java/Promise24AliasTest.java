import java.util.Random;

/** Promise 24: alias. */
public final class Promise24AliasTest {
    private static final int BAD = SqueezedAnswers.BAD;

    public static void main(String[] args) {
        Check check = new Check("Promise 24");
        whatBounds(check);
        noErrorsAtAll(check);
        noneToo(check);
        notOut(check);
        asIfNoCellHadTwo(check);
        ofOneOfTwo(check);
        againstAllErrors(check);
        check.finish();
    }

    private static void whatBounds(Check check) {
        check.sentence("(what 0), (1), (2). BAD");
        for (Past past : Past.values()) {
            for (int what : Check.outside(3)) {
                check.unchanged("alias " + what, past, BAD, x -> x.alias(what));
            }
        }
        check.unchanged("alias 0", Past.MIXED, 6, x -> x.alias(0));
        check.unchanged("alias 1", Past.MIXED, 4, x -> x.alias(1));
        check.unchanged("alias 2", Past.MIXED, 7, x -> x.alias(2));
    }

    private static void noErrorsAtAll(Check check) {
        check.sentence("of how many rows of errors (none, too): none alone, so 1, the logarithm is 0");
        for (int what = 0; what < 3; what++) {
            int asked = what;
            check.unchanged("no chains, alias " + what, Past.FRESH, 0, x -> x.alias(asked));
            SqueezedAnswers out = Check.of("chip 8 8 8;out 0 1 2 3 4 5 6 7;");
            check.due("all out, alias " + what, out.alias(what), 0);
        }
        check.unchanged("one cell that is seen", Past.SMALLEST, 0, x -> x.alias(0));
    }

    private static void noneToo(Check check) {
        check.sentence("the logarithm by 2 (what 0)");
        SqueezedAnswers x = Check.of("chip 3 2 2;column 0 0;column 1 1;column 2 0 1;");
        check.due("six cells, two bits", x.alias(0), 4);
        x.put(0, 0);
        check.due("still two bits", x.alias(0), 4);
        x.put(1, 0);
        x.put(2, 0);
        check.due("no bits any more", x.alias(0), 6);
        for (int length = 1; length <= 8; length++) {
            SqueezedAnswers y = Check.of("chip 1 " + length + " 8;column 0 0;poly 0;");
            check.due("each cell has a bit of its own", y.alias(0), 0);
            check.due("none of one", y.alias(1), 0);
            check.due("none of two", y.alias(2), 0);
        }
        SqueezedAnswers lost = Check.of("chip 1 8 1;column 0 0;poly 0;");
        check.due("only the last cell is seen", lost.alias(0), 7);
        check.due("all others alone", lost.alias(1), 7);
        check.due("two of the others", lost.alias(2), 21);
    }

    private static void notOut(Check check) {
        check.sentence("Errors are in CELLS of CHAINS that are not OUT");
        SqueezedAnswers x = Check.of("chip 3 2 2;column 1 1;column 2 0 1;");
        check.due("the first goes nowhere", x.alias(1), 2);
        x.out(1);
        check.due("four cells, two bits", x.alias(0), 2);
        check.due("the first is out", x.alias(1), 0);
        SqueezedAnswers last = Check.of("chip 8 8 8;out 7;");
        check.due("the last is out", last.alias(0), 56);
        check.due("so are its cells", last.alias(1), 56);
    }

    private static void asIfNoCellHadTwo(Check check) {
        check.sentence("(As if no CELL had 2.)");
        SqueezedAnswers x = Check.of("chip 3 2 2;column 0 0;column 1 1;column 2 0 1;");
        int[] before = {x.alias(0), x.alias(1), x.alias(2)};
        for (int seed = 0; seed < 10; seed++) {
            x.draw(seed);
            for (int what = 0; what < 3; what++) {
                check.due("alias " + what + " by " + seed, x.alias(what), before[what]);
            }
        }
    }

    private static void ofOneOfTwo(Check check) {
        check.sentence("how many of one (1), of two errors (2) there are of these");
        SqueezedAnswers x = Check.of("chip 3 2 2;column 0 0;column 1 1;column 2 0 1;");
        check.due("none of one", x.alias(1), 0);
        check.due("three of two", x.alias(2), 3);
        x.put(0, 0);
        check.due("two of one", x.alias(1), 2);
        check.due("two of two", x.alias(2), 2);
        SqueezedAnswers most = Check.of("chip 8 8 8;poly 0;");
        check.due("64 that go nowhere", most.alias(0), 64);
        check.due("64 of one", most.alias(1), 64);
        check.due("64 times 63 by 2", most.alias(2), 2016);
        SqueezedAnswers one = Check.of("chip 1 1 1;");
        check.due("one that goes nowhere", one.alias(0), 1);
        check.due("one of one", one.alias(1), 1);
        check.due("there are no two", one.alias(2), 0);
    }

    private static void againstAllErrors(Check check) {
        check.sentence("of how many rows of errors the SIGNATURE would be the same: against all rows");
        Random random = new Random(24);
        for (int run = 0; run < 150; run++) {
            int length = 1 + random.nextInt(5);
            int[] columns = new int[1 + random.nextInt(Math.min(8, 10 / length))];
            int outputs = 1 + random.nextInt(8);
            String text = "chip " + columns.length + " " + length + " " + outputs + ";poly "
                + random.nextInt(1 << outputs) + ";";
            for (int c = 0; c < columns.length; c++) {
                columns[c] = random.nextInt(1 << outputs);
            }
            int out = random.nextInt(3) == 0 ? random.nextInt(1 << columns.length) : 0;
            int[] same = sameSignatures(text, columns, out, length);
            SqueezedAnswers x = withColumns(text, columns, out);
            check.due("all rows of run " + run, 1 << x.alias(0), same[0]);
            check.due("rows of one of run " + run, x.alias(1), same[1]);
            check.due("rows of two of run " + run, x.alias(2), same[2]);
        }
    }

    private static SqueezedAnswers withColumns(String text, int[] columns, int out) {
        SqueezedAnswers x = Check.of(text);
        for (int c = 0; c < columns.length; c++) {
            x.put(c, columns[c]);
        }
        x.out(out);
        return x;
    }

    /** Tries all rows of errors on cells that are 0: how many there are, of one error, of two. */
    private static int[] sameSignatures(String text, int[] columns, int out, int length) {
        int[] found = new int[3];
        int cells = columns.length * length;
        for (int row = 0; row < 1 << cells; row++) {
            SqueezedAnswers x = withColumns(text, columns, out);
            boolean inside = true;
            for (int i = 0; i < cells; i++) {
                int v = (row >> i) & 1;
                inside &= v == 0 || ((out >> (i / length)) & 1) == 0;
                x.set(i / length, i % length, v);
            }
            if (inside && x.signature() == 0) {
                found[0]++;
                int errors = Integer.bitCount(row);
                if (errors == 1 || errors == 2) {
                    found[errors]++;
                }
            }
        }
        return found;
    }
}
