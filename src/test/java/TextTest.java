/** Promises 2 to 8: the tape, texts and their faults, what they tell. */
public final class TextTest {
    private static final int BAD = SqueezedAnswers.BAD;

    public static void main(String[] args) {
        Check check = new Check("TextTest");
        tape(check);
        taken(check);
        tokens(check);
        misplaced(check);
        bounds(check);
        twice(check);
        firstMet(check);
        notThere(check);
        inPlaceOfWhatWas(check);
        refusedStays(check);
        asked(check);
        check.finish();
    }

    private static void tape(Check check) {
        SqueezedAnswers x = new SqueezedAnswers();
        check.due("feed below", x.feed(-1), BAD);
        check.due("feed above", x.feed(128), BAD);
        check.due("feed lowest", x.feed(0), 1);
        check.due("feed highest", x.feed(127), 2);
        check.due("end below", x.end(-1), BAD);
        check.due("end beyond", x.end(3), BAD);
        check.due("still 2", x.count(2), 2);
        check.due("end of all", x.end(2), 2);
        check.due("end of one", x.end(1), 2);
        check.due("one left", x.count(2), 1);
        check.due("end of none", x.end(0), 1);
        for (int i = 1; i <= 160; i++) {
            check.due("feed " + i, x.feed(' '), i);
        }
        check.due("one more", x.feed(' '), SqueezedAnswers.FULL);
        check.due("a wrong one more", x.feed(128), BAD);
        check.due("160 stay", x.count(2), 160);
        check.due("blanks are a text", x.text(), 0);
        check.due("empty then", x.count(2), 0);
        check.due("nothing is a text", x.text(), 0);
        Check.feed(x, "poly 0;poly");
        check.due("cut", x.end(7), 11);
        check.due("the first bytes are kept", x.text(), 1);
        Check.feed(x, "poly 0;out");
        x.end(6);
        check.due("what is cut does not end a line", x.text(), -16);
        Check.feed(x, "poly 0000;");
        x.end(6);
        x.feed(';');
        check.due("nor does it go on", x.text(), 1);
        Check.feed(x, "polyx");
        x.end(4);
        check.due("nor is it a name's end", x.text(), -14);
        Check.feed(x, "poly 00000");
        x.end(9);
        check.due("nor a number's", x.text(), -19);
        full(check, 'x', 0);
        full(check, '0', 1);
        full(check, ';', 2);
        full(check, ' ', 3);
    }

    /** A tape that is full to its last byte, with a token of each kind there. */
    private static void full(Check check, int last, int kind) {
        int[] places = {159, 159, 159, 160};
        SqueezedAnswers x = new SqueezedAnswers();
        for (int i = 0; i < 159; i++) {
            x.feed(' ');
        }
        x.feed(last);
        check.due("full with " + last, x.text(), kind == 3 ? 0 : -10 - places[kind]);
        check.due("fault of full with " + last, x.fault(), kind == 3 ? 0 : 2);
        Check.feed(x, "out");
        for (int i = 3; i < 160; i++) {
            x.feed(i % 2 == 0 ? '0' : ' ');
        }
        check.due("a line without an end", x.text(), -170);
        check.due("its fault", x.fault(), 2);
    }

    private static void taken(Check check) {
        SqueezedAnswers x = Check.of("cell 2 1 1;column 0 1;chip 3 2 2;out 1 1;poly 3;register 5 17;"
            + "column 0 0 0;cell 0 0 0;out 2;cell 2 1 0;column 2 1;");
        int[] rules = {3, 2, 2, 6, 5, 17, 3, 4};
        for (int what = 0; what < rules.length; what++) {
            check.due("rule " + what, x.rule(what), rules[what]);
        }
        int[] columns = {3, 0, 2};
        for (int c = 0; c < columns.length; c++) {
            check.due("column " + c, x.column(c), columns[c]);
        }
        check.due("the later cell stands", x.cell(2, 1, 0), 0);
        check.due("another cell", x.cell(0, 0, 0), 0);
        check.due("a cell not told", x.cell(1, 1, 0), 2);
        check.due("bits of columns", x.count(5), 3);
        SqueezedAnswers other = Check.of("chip 2 5 7;");
        check.due("chains", other.rule(0), 2);
        check.due("length", other.rule(1), 5);
        check.due("outputs", other.rule(2), 7);
        check.due("eleven lines", Check.tell(x, "chip 1 1 1;out 0;out 0;out 0;out 0;out 0;out 0;out 0;out 0;out 0;out 0;"), 11);
        check.due("largest", Check.tell(x, "chip 8 8 8;column 7 7;out 7;register 12 4095;poly 255;cell 7 7 2;"), 6);
        check.due("all unknown", x.rule(7), 64);
        check.due("out 7", x.rule(3), 128);
        check.due("least", Check.tell(x, "chip 1 1 1;register 1 0;poly 0;cell 0 0 0;"), 4);
        check.due("least bits", x.rule(4), 1);
        check.due("least taps", x.rule(5), 0);
        check.due("least poly", x.rule(6), 0);
    }

    private static void fault(Check check, String text, int what, int place) {
        SqueezedAnswers x = new SqueezedAnswers();
        Check.feed(x, text);
        check.due("text \"" + text + "\"", x.text(), -10 - place);
        check.due("fault of \"" + text + "\"", x.fault(), what);
        check.due("the tape is empty behind \"" + text + "\"", x.count(2), 0);
    }

    private static void tokens(Check check) {
        check.due("no blanks", Check.tell(new SqueezedAnswers(), "chip1 1 1;column0 0;"), 2);
        check.due("many blanks", Check.tell(new SqueezedAnswers(), "   chip  1   1 1  ;  poly 1 ;  "), 2);
        check.due("leading figures", Check.tell(new SqueezedAnswers(), "chip 0001 001 01;register 0012 4095;"), 2);
        fault(check, "Chip", 1, 0);
        fault(check, "chip\n", 1, 4);
        fault(check, "chip 1 1 1,", 1, 10);
        fault(check, "chip -1", 1, 5);
        fault(check, "  chip 00001", 1, 7);
        fault(check, "chip 123456789012345678901234567890", 1, 5);
        fault(check, "chip 1 1 1;`", 1, 11);
        fault(check, "chip 1 1 1;{", 1, 11);
        fault(check, "chip 1 1 1:", 1, 10);
        fault(check, "chip 1 1 1/", 1, 10);
        fault(check, "\t", 1, 0);
        fault(check, "" + (char) 0, 1, 0);
        fault(check, "12345", 1, 0);
    }

    private static void misplaced(Check check) {
        fault(check, "a", 2, 0);
        fault(check, "z", 2, 0);
        fault(check, "az 1", 2, 0);
        fault(check, "dhip 1 1 1;", 2, 0);
        fault(check, "chiq 1 1 1;", 2, 0);
        fault(check, "chi 1 1 1;", 2, 0);
        fault(check, "chips 1 1 1;", 2, 0);
        fault(check, "chipout 1;", 2, 0);
        fault(check, "  1", 2, 2);
        fault(check, ";", 2, 0);
        fault(check, "chip 1 1 1;;", 2, 11);
        fault(check, "chip", 2, 4);
        fault(check, "chip  ", 2, 6);
        fault(check, "chip 1 1 1", 2, 10);
        fault(check, "chip 1 1 1  ", 2, 12);
        fault(check, "chip 1 1 1 1;", 2, 11);
        fault(check, "chip 1 1;", 2, 8);
        fault(check, "chip 1 out;", 2, 7);
        fault(check, "column 1;", 2, 8);
        fault(check, "column 1 1 out", 2, 11);
        fault(check, "out;", 2, 3);
        fault(check, "out 1 1 1 ", 2, 10);
        fault(check, "register 4;", 2, 10);
        fault(check, "register 4 1 1;", 2, 13);
        fault(check, "poly;", 2, 4);
        fault(check, "poly 1 1;", 2, 7);
        fault(check, "cell 0 0;", 2, 8);
        fault(check, "cell 0 0 0 0;", 2, 11);
    }

    private static void bounds(Check check) {
        fault(check, "chip 0 1 1;", 3, 5);
        fault(check, "chip 1 0 1;", 3, 7);
        fault(check, "chip 1 1 0;", 3, 9);
        fault(check, "chip 9 1 1;", 3, 5);
        fault(check, "chip 1 9 1;", 3, 7);
        fault(check, "chip 1 1 9;", 3, 9);
        fault(check, "column 8 0;", 3, 7);
        fault(check, "column 0 8;", 3, 9);
        fault(check, "column 0 1 8;", 3, 11);
        fault(check, "out 8;", 3, 4);
        fault(check, "out 0 0 9999;", 3, 8);
        fault(check, "register 0 0;", 3, 9);
        fault(check, "register 13 0;", 3, 9);
        fault(check, "register 12 4096;", 3, 12);
        fault(check, "poly 256;", 3, 5);
        fault(check, "cell 8 0 0;", 3, 5);
        fault(check, "cell 0 8 0;", 3, 7);
        fault(check, "cell 0 0 3;", 3, 9);
    }

    private static void twice(Check check) {
        fault(check, "chip 1 1 1; chip 1 1 1;", 4, 12);
        fault(check, "register 1 1;poly 0;register 1 1;", 4, 20);
        fault(check, "poly 0;poly 0;", 4, 7);
        check.due("others twice", Check.tell(new SqueezedAnswers(),
            "chip 1 1 1;column 0 0;column 0 0;out 0;out 0;cell 0 0 1;cell 0 0 1;"), 7);
    }

    private static void firstMet(Check check) {
        fault(check, "poly 0;poly $", 4, 7);
        fault(check, "poly 0;poly 999;", 4, 7);
        fault(check, "poly 256 $", 3, 5);
        fault(check, "chip 0 0 0;foo", 3, 5);
        fault(check, "foo $", 2, 0);
        fault(check, "poly 0 1 $", 2, 7);
        fault(check, "poly $;poly 0;", 1, 5);
        fault(check, "out 7;poly 0;poly 0;", 4, 13);
        fault(check, "out 7;$", 1, 6);
        fault(check, "chip 1 1 1 99;", 2, 11);
    }

    private static void notThere(Check check) {
        fault(check, "column 0 0;", 6, 11);
        fault(check, "out 0; ", 6, 7);
        fault(check, "cell 0 0 2;", 6, 11);
        fault(check, "chip 2 3 4;column 2 0;", 6, 22);
        fault(check, "chip 2 3 4;column 0 4;", 6, 22);
        fault(check, "column 0 0 4 0;chip 2 3 4;", 6, 26);
        fault(check, "out 2;chip 2 3 4;", 6, 17);
        fault(check, "chip 2 3 4;cell 2 0 0;", 6, 22);
        fault(check, "chip 2 3 4;cell 0 3 0;", 6, 22);
        fault(check, "register 3 8;", 6, 13);
        fault(check, "register 1 2;", 6, 13);
        fault(check, "poly 1;", 6, 7);
        fault(check, "poly 16;chip 2 3 4;", 6, 19);
        SqueezedAnswers x = new SqueezedAnswers();
        check.due("all at the edge", Check.tell(x,
            "chip 2 3 4;column 1 3;out 1;cell 1 2 1;register 3 7;poly 15;"), 6);
        check.due("a register needs no chip", Check.tell(x, "register 3 4;"), 1);
        check.due("no bits of poly need no chip", Check.tell(x, "poly 0;"), 1);
        check.due("poly at first needs no chip", x.text(), 0);
    }

    private static void inPlaceOfWhatWas(Check check) {
        SqueezedAnswers x = Check.of("chip 3 3 3;column 1 2;out 2;register 8 9;poly 5;cell 1 1 1;");
        x.want(1, 1, 0);
        x.dump(1, 0);
        x.keep(0);
        x.keep(1);
        check.due("text", Check.tell(x, "chip 2 2 2;"), 1);
        int[] rules = {2, 2, 2, 0, 4, 1, 1, 4};
        for (int what = 0; what < rules.length; what++) {
            check.due("rule " + what, x.rule(what), rules[what]);
        }
        check.due("no images", x.count(0), 0);
        check.due("no image", x.back(0), SqueezedAnswers.STATE);
        check.due("no wants", x.count(4), 0);
        check.due("want", x.cell(1, 1, 1), 2);
        check.due("column", x.column(1), 0);
        check.due("all suspects", x.suspects(1), 65536 + 15);
        check.due("without chip", Check.tell(x, "register 2 3;"), 1);
        int[] without = {0, 0, 0, 0, 2, 3, 1, 0};
        for (int what = 0; what < without.length; what++) {
            check.due("rule without chip " + what, x.rule(what), without[what]);
        }
    }

    private static void refusedStays(Check check) {
        SqueezedAnswers x = Check.of("chip 3 3 3;column 1 2;out 2;register 8 9;poly 5;cell 1 1 1;");
        x.want(1, 1, 0);
        x.dump(1, 0);
        x.keep(1);
        int suspects = x.suspects(1);
        check.due("refused", Check.tell(x, "chip 2 2 2;register 3 3;poly 1;out 7;"), -47);
        check.due("fault", x.fault(), 6);
        int[] rules = {3, 3, 3, 4, 8, 9, 5, 8};
        for (int what = 0; what < rules.length; what++) {
            check.due("rule " + what, x.rule(what), rules[what]);
        }
        check.due("image", x.count(0), 1);
        check.due("want", x.cell(1, 1, 1), 0);
        check.due("cell", x.cell(1, 1, 0), 1);
        check.due("column", x.column(1), 4);
        check.due("suspects", x.suspects(1), suspects);
        check.due("fault stays until a text", x.fault(), 6);
        x.feed(';');
        check.due("fault stays when fed", x.fault(), 6);
        x.end(0);
        check.due("a text", x.text(), 0);
        check.due("no fault", x.fault(), 0);
    }

    private static void asked(Check check) {
        SqueezedAnswers x = Check.of("chip 2 3 2;column 0 0;column 1 0 1;cell 0 0 1;cell 1 1 0;");
        check.due("rule below", x.rule(-1), BAD);
        check.due("rule above", x.rule(8), BAD);
        check.due("no chain", x.cell(2, 0, 0), BAD);
        check.due("no chain below", x.cell(-1, 0, 0), BAD);
        check.due("no cell", x.cell(0, 3, 0), BAD);
        check.due("no cell below", x.cell(0, -1, 0), BAD);
        check.due("no what", x.cell(0, 0, 3), BAD);
        check.due("no what below", x.cell(0, 0, -1), BAD);
        check.due("no column", x.column(2), BAD);
        check.due("no column below", x.column(-1), BAD);
        x.want(0, 0, 0);
        check.due("cell", x.cell(0, 0, 0), 1);
        check.due("want", x.cell(0, 0, 1), 0);
        check.due("a 2 hides it", x.cell(0, 0, 2), 0);
        check.due("watched by its own output", x.cell(1, 1, 2), 1);
        check.due("2 is not watched", x.cell(0, 1, 2), 0);
        x.out(2);
        check.due("out is not watched", x.cell(1, 1, 2), 0);
        check.due("watched without the other", x.cell(0, 0, 2), 1);
    }
}
