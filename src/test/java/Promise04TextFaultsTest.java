/** Promise 4: the lines of a text, FAULTS 2, 4, 6, and which of several is met first. */
public final class Promise04TextFaultsTest {
    public static void main(String[] args) {
        Check check = new Check("Promise 4, faults");
        beginsNoLine(check);
        howManyNumbers(check);
        theEnd(check);
        secondTime(check);
        noChip(check);
        notThere(check);
        tapsBeyondBits(check);
        polyBeyondOutputs(check);
        behindAll(check);
        firstMet(check);
        check.finish();
    }

    private static void beginsNoLine(Check check) {
        check.sentence("FAULT 2 a TOKEN that can not stand there (a NAME that begins no line)");
        Texts.refused(check, "a", 2, 0);
        Texts.refused(check, "z", 2, 0);
        Texts.refused(check, "  az 1;", 2, 2);
        for (String name : new String[] {"chip", "column", "out", "register", "poly", "cell"}) {
            Texts.refused(check, name.substring(1) + " 1;", 2, 0);
            Texts.refused(check, name.substring(0, name.length() - 1) + " 1;", 2, 0);
            Texts.refused(check, name + "s 1;", 2, 0);
            Texts.refused(check, "x" + name + " 1;", 2, 0);
            Texts.refused(check, "poly 0; y" + name.substring(1) + " 1;", 2, 8);
            Texts.refused(check, name.substring(0, name.length() - 1) + "x 1;", 2, 0);
        }
        Texts.refused(check, "1", 2, 0);
        Texts.refused(check, "poly 0;1", 2, 7);
        Texts.refused(check, ";", 2, 0);
    }

    /** A line that needs least numbers at least, and most at most (0: any number of them). */
    private static void numbers(Check check, String name, int least, int most) {
        for (int n = 0; n < least; n++) {
            String line = name + " 1".repeat(n);
            Texts.refused(check, line + ";", 2, line.length());
            Texts.refused(check, line + " out 1;", 2, line.length() + 1);
        }
        String whole = name + " 1".repeat(least);
        Texts.refused(check, whole + " chip;", 2, whole.length() + 1);
        if (most > 0) {
            Texts.refused(check, whole + " 1;", 2, whole.length() + 1);
            Texts.refused(check, whole + " 9999;", 2, whole.length() + 1);
        }
    }

    private static void howManyNumbers(Check check) {
        check.sentence("chip N N N ; | column N N { N } ; | out N { N } ; | register N N ; | poly N ; | cell N N N ;");
        numbers(check, "chip", 3, 3);
        numbers(check, "column", 2, 0);
        numbers(check, "out", 1, 0);
        numbers(check, "register", 2, 2);
        numbers(check, "poly", 1, 1);
        numbers(check, "cell", 3, 3);
        Texts.taken(check, "chip 8 8 8;column 7 7;out 7;register 12 4095;poly 255;cell 7 7 2;", 6);
        for (int n = 1; n <= 8; n++) {
            Texts.taken(check, "chip 1 1 1;column 0" + " 0".repeat(n) + ";out" + " 0".repeat(n) + ";", 3);
        }
        String column = "chip1 1 1;column0" + " 0".repeat(71) + ";";
        check.due("as many as a tape holds", Texts.taken(check, column, 2).column(0), 1);
        String out = "chip1 1 1;out" + " 0".repeat(73) + ";";
        check.due("as many out as a tape holds", Texts.taken(check, out, 2).rule(3), 1);
    }

    private static void theEnd(Check check) {
        check.sentence("FAULT 2 .. or the end: the length");
        String[] lines = {"chip 1 1 1;", "column 0 0;", "out 0;", "register 4 1;", "poly 0;", "cell 0 0 0;"};
        for (String line : lines) {
            for (int n = line.indexOf(' '); n < line.length(); n++) {
                Texts.refused(check, line.substring(0, n), 2, n);
            }
            Texts.refused(check, line.substring(0, line.length() - 1) + "   ", 2, line.length() + 2);
        }
        Texts.refused(check, "poly 0;  out", 2, 12);
    }

    private static void secondTime(Check check) {
        check.sentence("FAULT 4 chip, register, poly for the second time (its NAME)");
        Texts.refused(check, "chip 1 1 1; chip 1 1 1;", 4, 12);
        Texts.refused(check, "chip 1 1 1;chip 2 2 2;", 4, 11);
        Texts.refused(check, "register 1 1;poly 0;register 1 1;", 4, 20);
        Texts.refused(check, "register 4 1;register 4 1;", 4, 13);
        Texts.refused(check, "poly 0;poly 0;", 4, 7);
        Texts.refused(check, "poly 0;poly", 4, 7);
        Texts.refused(check, "poly 0;chip 1 1 1;register 1 0;  chip", 4, 33);
        Texts.taken(check, "poly 0;chip 1 1 1;register 1 0;", 3);
        check.sentence("column, out, cell may come again");
        Texts.taken(check, "chip 1 1 1;column 0 0;column 0 0;out 0;out 0;cell 0 0 1;cell 0 0 1;", 7);
    }

    private static void noChip(Check check) {
        check.sentence("FAULT 6 there is no chip, but a column, an out, a cell");
        Texts.refused(check, "column 0 0;", 6, 11);
        Texts.refused(check, "out 0;", 6, 6);
        Texts.refused(check, "cell 0 0 2;", 6, 11);
        Texts.refused(check, "register 4 1;poly 0;cell 0 0 0;", 6, 31);
        Texts.taken(check, "", 0);
        Texts.taken(check, "register 4 1;", 1);
        Texts.taken(check, "poly 0;", 1);
        Texts.taken(check, "chip 1 1 1;column 0 0;out 0;cell 0 0 2;", 4);
        Texts.taken(check, "column 0 0;out 0;cell 0 0 2;chip 1 1 1;", 4);
    }

    /** The same line ahead of the chip and behind it. */
    private static void beside(Check check, String chip, String line, boolean there) {
        for (String text : new String[] {chip + line, line + chip}) {
            if (there) {
                Texts.taken(check, text, 2);
            } else {
                Texts.refused(check, text, 6, text.length());
            }
        }
    }

    private static void notThere(Check check) {
        check.sentence("FAULT 6 a CHAIN, a CELL, an OUTPUT is told that there is not");
        for (int n = 1; n <= 7; n++) {
            int last = n - 1;
            beside(check, "chip " + n + " 8 8;", "column " + last + " 7;", true);
            beside(check, "chip " + n + " 8 8;", "column " + n + " 7;", false);
            beside(check, "chip " + n + " 8 8;", "out " + last + ";", true);
            beside(check, "chip " + n + " 8 8;", "out " + n + ";", false);
            beside(check, "chip " + n + " 8 8;", "out " + n + " 0;", false);
            beside(check, "chip " + n + " 8 8;", "cell " + last + " 7 2;", true);
            beside(check, "chip " + n + " 8 8;", "cell " + n + " 7 2;", false);
            beside(check, "chip 8 " + n + " 8;", "cell 7 " + last + " 2;", true);
            beside(check, "chip 8 " + n + " 8;", "cell 7 " + n + " 2;", false);
            beside(check, "chip 8 8 " + n + ";", "column 7 " + last + ";", true);
            beside(check, "chip 8 8 " + n + ";", "column 7 " + n + ";", false);
            beside(check, "chip 8 8 " + n + ";", "column 7 0 " + n + " 0;", false);
        }
        beside(check, "chip 8 8 8;", "column 7 7;", true);
        beside(check, "chip 8 8 8;", "out 7;", true);
        beside(check, "chip 8 8 8;", "cell 7 7 1;", true);
    }

    private static void tapsBeyondBits(Check check) {
        check.sentence("FAULT 6 TAPS have a bit that BITS have not");
        for (int bits = 1; bits <= 11; bits++) {
            String most = "register " + bits + " " + ((1 << bits) - 1) + ";";
            check.due("taps", Texts.taken(check, most, 1).rule(5), (1 << bits) - 1);
            Texts.taken(check, "register " + bits + " " + (1 << (bits - 1)) + ";", 1);
            for (int taps : new int[] {1 << bits, (1 << bits) + 1, 2048, 4095}) {
                String text = "register " + bits + " " + taps + ";";
                Texts.refused(check, text, 6, text.length());
            }
        }
        Texts.taken(check, "register 12 2048;", 1);
        Texts.taken(check, "register 12 4095;", 1);
    }

    private static void polyBeyondOutputs(Check check) {
        check.sentence("FAULT 6 POLY has a bit that OUTPUTS have not (no chip: none has)");
        for (int outputs = 1; outputs <= 7; outputs++) {
            String chip = "chip 1 1 " + outputs + ";";
            beside(check, chip, "poly " + ((1 << outputs) - 1) + ";", true);
            beside(check, chip, "poly " + (1 << (outputs - 1)) + ";", true);
            beside(check, chip, "poly " + (1 << outputs) + ";", false);
            beside(check, chip, "poly " + ((1 << outputs) + 1) + ";", false);
            beside(check, chip, "poly 255;", false);
        }
        beside(check, "chip 1 1 8;", "poly 255;", true);
        Texts.taken(check, "poly 0;", 1);
        Texts.refused(check, "poly 1;", 6, 7);
        Texts.refused(check, "poly 255;", 6, 9);
        check.sentence("POLY is as at first, if it is not told");
        check.due("poly without chip", Texts.taken(check, "", 0).rule(6), 1);
    }

    private static void behindAll(Check check) {
        check.sentence("Behind all (the length): 6");
        Texts.refused(check, "out 0;   ", 6, 9);
        Texts.refused(check, "out 7;poly 0;poly 0;", 4, 13);
        Texts.refused(check, "out 7;$", 1, 6);
        Texts.refused(check, "out 7;out", 2, 9);
        Texts.refused(check, "register 1 2;poly 256;", 3, 18);
        Texts.refused(check, "poly 255;register 1 4095;out 7;chip 1 1 1;", 6, 42);
    }

    private static void firstMet(Check check) {
        check.sentence("the first met as it is read (a TOKEN is read when the one before has been taken)");
        Texts.refused(check, "poly 0;poly $", 4, 7);
        Texts.refused(check, "poly 0;poly 999;", 4, 7);
        Texts.refused(check, "poly 256 $", 3, 5);
        Texts.refused(check, "poly 256$", 3, 5);
        Texts.refused(check, "poly 256 00000;", 3, 5);
        Texts.refused(check, "poly 256", 3, 5);
        Texts.refused(check, "chip 0 0 0;foo", 3, 5);
        Texts.refused(check, "foo $", 2, 0);
        Texts.refused(check, "foo$", 2, 0);
        Texts.refused(check, "foo 00000", 2, 0);
        Texts.refused(check, "poly 0 1 $", 2, 7);
        Texts.refused(check, "poly $;poly 0;", 1, 5);
        Texts.refused(check, "poly 00000;poly 0;", 1, 5);
        Texts.refused(check, "chip 1 1 1 99;", 2, 11);
        Texts.refused(check, "chip 1 1 9 $", 3, 9);
        Texts.refused(check, "out 8 chip", 3, 4);
        Texts.refused(check, "out chip 8;", 2, 4);
        Texts.refused(check, "column 0 0 8 ;$", 3, 11);
    }
}
