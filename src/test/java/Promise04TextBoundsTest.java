/** Promise 4: the bounds of the numbers in a text, and FAULT 3. */
public final class Promise04TextBoundsTest {
    private static final String LARGEST = "chip 8 8 8;";

    public static void main(String[] args) {
        Check check = new Check("Promise 4, bounds");
        chip(check);
        column(check);
        out(check);
        register(check);
        poly(check);
        cell(check);
        check.finish();
    }

    private static void chip(Check check) {
        check.sentence("chip: CHAINS (1 to 8), LENGTH, OUTPUTS (1 to 8 each)");
        for (int n = 1; n <= 8; n++) {
            Texts.rules(check, Texts.taken(check, "chip " + n + " 1 1;", 1), n, 1, 1);
            Texts.rules(check, Texts.taken(check, "chip 1 " + n + " 1;", 1), 1, n, 1);
            Texts.rules(check, Texts.taken(check, "chip 1 1 " + n + ";", 1), 1, 1, n);
        }
        for (String n : new String[] {"0", "0000", "9", "10", "9999"}) {
            Texts.refused(check, "chip " + n + " 1 1;", 3, 5);
            Texts.refused(check, "chip 1 " + n + " 1;", 3, 7);
            Texts.refused(check, "chip 1 1 " + n + ";", 3, 9);
        }
    }

    private static void column(Check check) {
        check.sentence("column: a CHAIN (0 to 7), OUTPUTS (0 to 7)");
        for (int n = 0; n <= 7; n++) {
            check.due("chain " + n, Texts.taken(check, LARGEST + "column " + n + " 5;", 2).column(n), 32);
            check.due("output " + n, Texts.taken(check, LARGEST + "column 5 " + n + ";", 2).column(5), 1 << n);
            check.due("third " + n, Texts.taken(check, LARGEST + "column 5 " + n + " " + n + ";", 2).column(5), 1 << n);
        }
        for (String n : new String[] {"8", "9", "10", "9999"}) {
            Texts.refused(check, "column " + n + " 0;", 3, 7);
            Texts.refused(check, "column 0 " + n + ";", 3, 9);
            Texts.refused(check, "column 0 7 " + n + ";", 3, 11);
            Texts.refused(check, "column 0 7 7 " + n + ";", 3, 13);
        }
    }

    private static void out(Check check) {
        check.sentence("out: CHAINS (0 to 7)");
        for (int n = 0; n <= 7; n++) {
            check.due("out " + n, Texts.taken(check, LARGEST + "out " + n + ";", 2).rule(3), 1 << n);
            check.due("out 0 " + n, Texts.taken(check, LARGEST + "out 0 " + n + ";", 2).rule(3), 1 | 1 << n);
        }
        for (String n : new String[] {"8", "9", "10", "9999"}) {
            Texts.refused(check, "out " + n + ";", 3, 4);
            Texts.refused(check, "out 7 " + n + ";", 3, 6);
        }
    }

    private static void register(Check check) {
        check.sentence("register: BITS (1 to 12), TAPS (0 to 4095)");
        for (int n = 1; n <= 12; n++) {
            SqueezedAnswers x = Texts.taken(check, "register " + n + " 0;", 1);
            check.due("bits", x.rule(4), n);
            check.due("taps", x.rule(5), 0);
        }
        check.due("most taps", Texts.taken(check, "register 12 4095;", 1).rule(5), 4095);
        check.due("one less", Texts.taken(check, "register 12 4094;", 1).rule(5), 4094);
        for (String n : new String[] {"0", "13", "14", "9999"}) {
            Texts.refused(check, "register " + n + " 0;", 3, 9);
        }
        for (String n : new String[] {"4096", "4097", "9999"}) {
            Texts.refused(check, "register 12 " + n + ";", 3, 12);
        }
    }

    private static void poly(Check check) {
        check.sentence("poly: POLY (0 to 255)");
        for (int n : new int[] {0, 1, 254, 255}) {
            check.due("poly", Texts.taken(check, LARGEST + "poly " + n + ";", 2).rule(6), n);
        }
        for (int n : new int[] {256, 257, 9999}) {
            Texts.refused(check, LARGEST + "poly " + n + ";", 3, 16);
        }
    }

    private static void cell(Check check) {
        check.sentence("cell: a CHAIN, a CELL (0 to 7 each), 0 to 2");
        for (int n = 0; n <= 7; n++) {
            check.due("chain " + n, Texts.taken(check, LARGEST + "cell " + n + " 3 1;", 2).cell(n, 3, 0), 1);
            check.due("cell " + n, Texts.taken(check, LARGEST + "cell 3 " + n + " 0;", 2).cell(3, n, 0), 0);
        }
        for (int v = 0; v <= 2; v++) {
            check.due("value " + v, Texts.taken(check, LARGEST + "cell 7 7 " + v + ";", 2).cell(7, 7, 0), v);
        }
        for (String n : new String[] {"8", "9", "9999"}) {
            Texts.refused(check, "cell " + n + " 0 0;", 3, 5);
            Texts.refused(check, "cell 7 " + n + " 0;", 3, 7);
        }
        for (String v : new String[] {"3", "4", "9999"}) {
            Texts.refused(check, "cell 7 7 " + v + ";", 3, 9);
        }
    }
}
