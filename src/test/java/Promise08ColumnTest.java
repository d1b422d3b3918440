/** Promise 8: column. */
public final class Promise08ColumnTest {
    private static final int BAD = SqueezedAnswers.BAD;

    public static void main(String[] args) {
        Check check = new Check("Promise 8");
        chainBounds(check);
        columnOfAChain(check);
        check.finish();
    }

    private static void chainBounds(Check check) {
        check.sentence("COLUMN of a CHAIN. BAD");
        for (Past past : Past.values()) {
            for (int c : Check.outside(past.chains)) {
                check.unchanged("column " + c, past, BAD, x -> x.column(c));
            }
        }
        for (int chains = 1; chains <= 8; chains++) {
            SqueezedAnswers x = Check.of("chip " + chains + " 1 1;column " + (chains - 1) + " 0;");
            check.due("the last of " + chains, x.column(chains - 1), 1);
            check.due("behind the last of " + chains, x.column(chains), BAD);
        }
    }

    private static void columnOfAChain(Check check) {
        check.sentence("COLUMN: to which OUTPUTS it goes (bits)");
        int[] columns = {3, 0, 3};
        for (int c = 0; c < columns.length; c++) {
            int asked = c;
            check.unchanged("column " + c, Past.MIXED, columns[c], x -> x.column(asked));
        }
        check.due("of none at first", Check.of("chip 2 1 8;").column(1), 0);
        for (int some = 0; some < 256; some++) {
            SqueezedAnswers x = Check.of("chip 2 1 8;");
            x.put(1, some);
            check.due("column", x.column(1), some);
            check.due("the other", x.column(0), 0);
        }
    }
}
