/** Promise 4: the tokens of a text, and FAULT 1. */
public final class Promise04TextTokensTest {
    public static void main(String[] args) {
        Check check = new Check("Promise 4, tokens");
        everyByte(check);
        blanks(check);
        figures(check);
        asLongAsMayBe(check);
        oneSemicolon(check);
        noToken(check);
        wholeTape(check);
        check.finish();
    }

    private static boolean isNameOrNumber(int c) {
        return c >= 'a' && c <= 'z' || c >= '0' && c <= '9';
    }

    private static void everyByte(Check check) {
        check.sentence("NAMES (a .. z), NUMBERS, one ; blanks (32) between; FAULT 1 no TOKEN");
        for (int c = 0; c <= 127; c++) {
            SqueezedAnswers x = new SqueezedAnswers();
            x.feed(' ');
            x.feed(c);
            boolean token = isNameOrNumber(c) || c == ';';
            check.due("byte " + c, x.text(), c == ' ' ? 0 : -11);
            check.due("fault of byte " + c, x.fault(), c == ' ' ? 0 : token ? 2 : 1);
            Check.feed(x, "poly 0");
            x.feed(c);
            x.feed(';');
            boolean taken = c == ' ' || c == '0';
            boolean one = c >= '1' && c <= '9';
            check.due("number and byte " + c, x.text(), taken ? 1 : one ? -18 : c == ';' ? -17 : -16);
            check.due("fault of number and byte " + c, x.fault(), taken ? 0 : one ? 6 : token ? 2 : 1);
        }
    }

    private static void blanks(Check check) {
        check.sentence("blanks (32) between");
        Texts.taken(check, "", 0);
        Texts.taken(check, " ", 0);
        Texts.taken(check, "chip1 1 1;column0 0;", 2);
        Texts.taken(check, "   chip  1   1 1  ;  poly 1 ;  ", 2);
        Texts.refused(check, "chip 1 11;", 3, 7);
        Texts.refused(check, "po ly 0;", 2, 0);
        Texts.refused(check, "chip\t1 1 1;", 1, 4);
        Texts.refused(check, "chip\n1 1 1;", 1, 4);
    }

    private static void figures(Check check) {
        check.sentence("NUMBERS (1 to 4 figures); FAULT 1 a NUMBER that is too long (its first byte)");
        Texts.refused(check, "poly ;", 2, 5);
        Texts.taken(check, "poly 0;", 1);
        Texts.taken(check, "poly 00;", 1);
        Texts.taken(check, "poly 000;", 1);
        Texts.taken(check, "poly 0000;", 1);
        Texts.refused(check, "poly 00000;", 1, 5);
        Texts.refused(check, "poly 000000;", 1, 5);
        Texts.refused(check, "poly   00000;", 1, 7);
        Texts.refused(check, "poly 9999;", 3, 5);
        Texts.refused(check, "poly 10000;", 1, 5);
        Texts.refused(check, "poly 4294967296;", 1, 5);
        Texts.refused(check, "9999", 2, 0);
        Texts.refused(check, "10000", 1, 0);
        Texts.refused(check, "poly 0 10000;", 1, 7);
        Texts.rules(check, Texts.taken(check, "chip 0001 0002 0003;register 0012 4095;", 2), 1, 2, 3, 0, 12, 4095);
    }

    private static void asLongAsMayBe(Check check) {
        check.sentence("TOKENS, each as long as may be");
        Texts.refused(check, "chipout 1;", 2, 0);
        Texts.refused(check, "chips 1 1 1;", 2, 0);
        Texts.refused(check, "chi 1 1 1;", 2, 0);
        Texts.refused(check, "polypoly 0;", 2, 0);
        Texts.refused(check, "poly 12345678", 1, 5);
        Texts.refused(check, "chip 111;", 3, 5);
    }

    private static void oneSemicolon(Check check) {
        check.sentence("one ;");
        Texts.refused(check, ";", 2, 0);
        Texts.refused(check, "poly 0;;", 2, 7);
        Texts.taken(check, "poly 0;register 1 0;", 2);
    }

    private static void noToken(Check check) {
        check.sentence("FAULT 1 no TOKEN");
        Texts.refused(check, "Chip", 1, 0);
        Texts.refused(check, "cHip", 2, 0);
        Texts.refused(check, "chip 1 1 1,", 1, 10);
        Texts.refused(check, "chip -1", 1, 5);
        Texts.refused(check, "chip 1 1 1;`", 1, 11);
        Texts.refused(check, "chip 1 1 1;{", 1, 11);
        Texts.refused(check, "chip 1 1 1:", 1, 10);
        Texts.refused(check, "chip 1 1 1/", 1, 10);
        Texts.refused(check, "chip 1 1 1<", 1, 10);
        Texts.refused(check, "" + (char) 0, 1, 0);
        Texts.refused(check, "" + (char) 127, 1, 0);
    }

    private static void wholeTape(Check check) {
        check.sentence("THE TAPE has 160 bytes, places from 0");
        Texts.taken(check, " ".repeat(160), 0);
        Texts.taken(check, " ".repeat(153) + "poly 0;", 1);
        Texts.refused(check, " ".repeat(154) + "poly 0", 2, 160);
        Texts.refused(check, " ".repeat(159) + "x", 2, 159);
        Texts.refused(check, " ".repeat(159) + "0", 2, 159);
        Texts.refused(check, " ".repeat(159) + ";", 2, 159);
        Texts.refused(check, " ".repeat(159) + "$", 1, 159);
        Texts.refused(check, "$" + " ".repeat(159), 1, 0);
        Texts.refused(check, "x".repeat(160), 2, 0);
        Texts.refused(check, "0".repeat(160), 1, 0);
        Texts.refused(check, Texts.filled("out 0;", 160), 6, 160);
    }
}
