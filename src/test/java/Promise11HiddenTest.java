/** Promise 11: hidden, and when errors are HIDDEN. */
public final class Promise11HiddenTest {
    private static final int BAD = SqueezedAnswers.BAD;
    private static final String THREE = "chip 3 2 2;column 0 0;column 1 1;column 2 0 1;";

    public static void main(String[] args) {
        Check check = new Check("Promise 11");
        errorsBounds(check);
        unknownBounds(check);
        whatBounds(check);
        howMany(check);
        moreThanThereAre(check);
        hiddenSums(check);
        outIsNoneOfEither(check);
        check.finish();
    }

    private static void errorsBounds(Check check) {
        check.sentence("e CHAINS (1 to 8). BAD");
        for (Past past : Past.values()) {
            for (int e : new int[] {Integer.MIN_VALUE, -1, 0, 9, 10, Integer.MAX_VALUE}) {
                check.unchanged("hidden " + e + ", 0, 0", past, BAD, x -> x.hidden(e, 0, 0));
                check.unchanged("hidden " + e + ", 8, 1", past, BAD, x -> x.hidden(e, 8, 1));
            }
        }
        SqueezedAnswers all = Check.of("chip 8 1 1;");
        check.due("e 1", all.hidden(1, 0, 0), 8);
        check.due("e 8", all.hidden(8, 0, 0), 1);
        check.due("e 8 hidden", all.hidden(8, 0, 1), 1);
    }

    private static void unknownBounds(Check check) {
        check.sentence("u others (0 to 8). BAD");
        for (Past past : Past.values()) {
            for (int u : Check.outside(9)) {
                check.unchanged("hidden 1, " + u + ", 0", past, BAD, x -> x.hidden(1, u, 0));
                check.unchanged("hidden 8, " + u + ", 1", past, BAD, x -> x.hidden(8, u, 1));
            }
            check.unchanged("hidden 1, 8, 0", past, 0, x -> x.hidden(1, 8, 0));
            check.unchanged("hidden 1, 8, 1", past, 0, x -> x.hidden(1, 8, 1));
        }
        SqueezedAnswers all = Check.of("chip 8 1 1;");
        check.due("u 0", all.hidden(1, 0, 1), 8);
        check.due("u 7", all.hidden(1, 7, 1), 8);
        check.due("u 8", all.hidden(1, 8, 1), 0);
    }

    private static void whatBounds(Check check) {
        check.sentence("how many (what 0), how many are HIDDEN (1). BAD");
        for (Past past : Past.values()) {
            for (int what : Check.outside(2)) {
                check.unchanged("hidden 1, 0, " + what, past, BAD, x -> x.hidden(1, 0, what));
            }
        }
        check.unchanged("choices", Past.MIXED, 2, x -> x.hidden(1, 0, 0));
        check.unchanged("hidden", Past.MIXED, 1, x -> x.hidden(1, 0, 1));
    }

    private static void howMany(Check check) {
        check.sentence("Of all choices of e CHAINS and u others: how many (what 0)");
        int[] factorials = {1, 1, 2, 6, 24, 120, 720, 5040, 40320};
        for (int chains = 1; chains <= 8; chains++) {
            SqueezedAnswers x = Check.of("chip " + chains + " 1 1;");
            for (int e = 1; e <= chains; e++) {
                for (int u = 0; e + u <= chains; u++) {
                    int due = factorials[chains] / factorials[e] / factorials[u] / factorials[chains - e - u];
                    check.due("choices of " + e + ", " + u, x.hidden(e, u, 0), due);
                    check.due("all hidden, as none goes anywhere", x.hidden(e, u, 1), due);
                }
            }
        }
    }

    private static void moreThanThereAre(Check check) {
        check.sentence("of all choices: there is none of more CHAINS than there are");
        for (int chains = 1; chains <= 8; chains++) {
            SqueezedAnswers x = Check.of("chip " + chains + " 1 1;");
            for (int e = 1; e <= 8; e++) {
                int u = Math.max(0, chains - e + 1);
                check.due("one too many of " + chains, x.hidden(e, u, 0), 0);
                check.due("one too many hidden", x.hidden(e, u, 1), 0);
            }
        }
    }

    private static void hiddenSums(Check check) {
        check.sentence("HIDDEN, if the COLUMNS of the first, added, have no bit that is in none of the others' COLUMNS");
        SqueezedAnswers x = Check.of(THREE);
        check.due("none of one alone", x.hidden(1, 0, 1), 0);
        check.due("none of two alone", x.hidden(2, 0, 1), 0);
        check.due("three add up to nothing", x.hidden(3, 0, 1), 1);
        check.due("behind the third", x.hidden(1, 1, 1), 2);
        check.due("behind two", x.hidden(1, 2, 1), 3);
        check.due("two behind one", x.hidden(2, 1, 1), 3);
        x.put(0, 0);
        check.due("one goes nowhere", x.hidden(1, 0, 1), 1);
        SqueezedAnswers both = Check.of("chip 3 1 2;column 0 0;column 1 0;column 2 0 1;");
        check.due("two that cover the same output", both.hidden(1, 2, 1), 2);
        both.put(2, 1);
        check.due("all cover the same output", both.hidden(1, 2, 1), 3);
    }

    private static void outIsNoneOfEither(Check check) {
        check.sentence("CHAINS that are OUT are none of either");
        SqueezedAnswers x = Check.of(THREE);
        x.out(4);
        check.due("choices without the third", x.hidden(1, 1, 0), 2);
        check.due("hidden without the third", x.hidden(1, 1, 1), 0);
        check.due("three of two", x.hidden(3, 0, 0), 0);
        x.out(7);
        check.due("all are out", x.hidden(1, 0, 0), 0);
        check.due("none is hidden", x.hidden(1, 0, 1), 0);
        SqueezedAnswers ends = Check.of("chip 8 1 1;out 0 7;");
        check.due("six are left", ends.hidden(1, 0, 0), 6);
        check.due("three and three of six", ends.hidden(3, 3, 1), 20);
        check.due("seven of six", ends.hidden(7, 0, 0), 0);
    }
}
