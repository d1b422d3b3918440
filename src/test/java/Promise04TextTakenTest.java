/** Promise 4: what a text tells that is taken, and what stays of one that is refused. */
public final class Promise04TextTakenTest {
    public static void main(String[] args) {
        Check check = new Check("Promise 4, taken");
        howManyLines(check);
        anyOrder(check);
        besidesWhatIsTold(check);
        inPlaceOfWhatThereWas(check);
        imagesAreGone(check);
        withoutChip(check);
        empties(check);
        restStays(check);
        refusedStays(check);
        check.finish();
    }

    private static void howManyLines(Check check) {
        check.sentence("how many lines");
        Texts.taken(check, "", 0);
        Texts.taken(check, "    ", 0);
        Texts.taken(check, "poly 0;", 1);
        Texts.taken(check, "chip1 1 1;" + "out0;".repeat(9), 10);
        Texts.taken(check, "chip1 1 1;" + "out0;".repeat(30), 31);
    }

    private static void anyOrder(Check check) {
        check.sentence("text: { line }");
        SqueezedAnswers x = Texts.taken(check, "cell 2 1 1;column 0 1;chip 3 2 2;out 1 1;poly 3;register 5 17;"
            + "column 0 0 0;cell 0 0 0;out 2;cell 2 1 0;column 2 1;", 11);
        Texts.rules(check, x, 3, 2, 2, 6, 5, 17, 3, 4);
        int[] columns = {3, 0, 2};
        for (int c = 0; c < columns.length; c++) {
            check.due("column " + c, x.column(c), columns[c]);
        }
        check.due("the later cell stands", x.cell(2, 1, 0), 0);
        check.due("another cell", x.cell(0, 0, 0), 0);
        check.due("a cell not told", x.cell(1, 1, 0), 2);
    }

    private static void besidesWhatIsTold(Check check) {
        check.sentence("column: OUTPUTS to which it goes, besides what is told; out: CHAINS that are OUT, besides");
        SqueezedAnswers x = Texts.taken(check, "chip 2 1 8;column 1 0;column 1 7 3 3;column 1 7;out 1;out 0;", 6);
        check.due("column", x.column(1), 1 + 8 + 128);
        check.due("the other", x.column(0), 0);
        check.due("out", x.rule(3), 3);
    }

    private static void inPlaceOfWhatThereWas(Check check) {
        check.sentence("A text that is taken tells all, in place of what there was (WANTS are 2, SUSPECTS all)");
        SqueezedAnswers fresh = Check.of("chip 3 4 2;");
        for (Past past : Past.values()) {
            SqueezedAnswers x = past.make();
            x.end(0);
            check.due("text on " + past, Check.tell(x, "chip 3 4 2;"), 1);
            x.sheet(0, 0, 1);
            fresh.sheet(0, 0, 1);
            check.that("as if told to a new object, on " + past, Look.STATE.at(x).equals(Look.STATE.at(fresh)));
        }
        check.due("wants", fresh.count(4), 0);
        check.due("suspects", fresh.suspects(2), 65536 + 255);
    }

    private static void imagesAreGone(Check check) {
        check.sentence("IMAGES are gone");
        for (String text : new String[] {"", " ", "poly 0;", "chip 3 4 2;"}) {
            SqueezedAnswers x = Texts.taken(check, text, text.isBlank() ? 0 : 1);
            check.due("images", x.count(0), 0);
            check.due("back 0", x.back(0), SqueezedAnswers.STATE);
            check.due("back 1", x.back(1), SqueezedAnswers.STATE);
            check.due("differs", x.differs(1, 0), SqueezedAnswers.STATE);
            check.due("none was", x.keep(1), 0);
        }
    }

    private static void withoutChip(Check check) {
        check.sentence("Without chip there are no CHAINS, LENGTH, OUTPUTS are 0; BITS, TAPS, POLY are as at first");
        Texts.rules(check, Texts.taken(check, "", 0), 0, 0, 0, 0, 4, 1, 1, 0);
        Texts.rules(check, Texts.taken(check, "register 2 3;", 1), 0, 0, 0, 0, 2, 3, 1, 0);
        Texts.rules(check, Texts.taken(check, "poly 0;", 1), 0, 0, 0, 0, 4, 1, 0, 0);
        Texts.rules(check, Texts.taken(check, "chip 1 1 1;", 1), 1, 1, 1, 0, 4, 1, 1, 1);
    }

    private static void empties(Check check) {
        check.sentence("THE TAPE (empty then)");
        SqueezedAnswers x = new SqueezedAnswers();
        check.due("taken", Check.tell(x, "poly 0;"), 1);
        check.due("none is left", x.count(2), 0);
        check.due("refused", Check.tell(x, "poly 0"), -16);
        check.due("none is left of what is refused", x.count(2), 0);
        check.due("nothing is a text", x.text(), 0);
        SqueezedAnswers full = Past.FULL_TAPE.make();
        check.due("full", full.text(), 3);
        check.due("none is left of all", full.count(2), 0);
    }

    private static void restStays(Check check) {
        check.sentence("a text tells nothing of SHEETS");
        SqueezedAnswers x = Texts.taken(check, "chip 3 4 2;", 1);
        SqueezedAnswers y = Past.MIXED.make();
        check.due("sheet 0", x.count(3), y.count(3));
        check.due("torn", x.torn(), y.torn());
        check.due("read", x.read(0, 0, 0, 13), y.read(0, 0, 0, 13));
        check.due("what was laid", x.cell(2, 1, 0), 1);
    }

    private static void refusedStays(Check check) {
        check.sentence("-10 less the place of its FAULT: that which was told stays");
        String told = "chip 2 2 2;register 3 3;poly 1;column 1 1;cell 1 1 1;out 0;";
        Texts.refused(check, told + "$", 1, told.length());
        Texts.refused(check, told + "out", 2, told.length() + 3);
        Texts.refused(check, told + "out 8", 3, told.length() + 4);
        Texts.refused(check, told + "chip", 4, told.length());
        Texts.refused(check, told + "out 7;", 6, told.length() + 6);
        Texts.refused(check, "$", 1, 0);
    }
}
