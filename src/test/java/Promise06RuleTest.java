/** Promise 6: rule. */
public final class Promise06RuleTest {
    public static void main(String[] args) {
        Check check = new Check("Promise 6");
        whatBounds(check);
        eachRule(check);
        cellsThatHaveTwo(check);
        check.finish();
    }

    private static void whatBounds(Check check) {
        check.sentence("0 CHAINS .. 7 CELLS that have 2. BAD");
        for (Past past : Past.values()) {
            for (int what : Check.outside(8)) {
                check.unchanged("rule " + what, past, SqueezedAnswers.BAD, x -> x.rule(what));
            }
            check.unchanged("CHAINS", past, past.chains, x -> x.rule(0));
            check.unchanged("LENGTH", past, past.length, x -> x.rule(1));
            check.unchanged("OUTPUTS", past, past.outputs, x -> x.rule(2));
            check.unchanged("BITS", past, past.bits, x -> x.rule(4));
        }
    }

    private static void eachRule(Check check) {
        check.sentence("0 CHAINS, 1 LENGTH, 2 OUTPUTS, 3 OUT, 4 BITS, 5 TAPS, 6 POLY, 7 CELLS that have 2");
        Texts.rules(check, Check.of("chip 2 5 7;out 1;register 6 33;poly 65;cell 0 0 0;"), 2, 5, 7, 2, 6, 33, 65, 9);
        SqueezedAnswers x = Past.MIXED.make();
        Texts.rules(check, x, 3, 4, 2, 4, 5, 9, 3, 7);
        x.back(1);
        Texts.rules(check, x, 3, 4, 2, 0, 5, 9, 3, 8);
        Texts.rules(check, Past.LARGEST.make(), 8, 8, 8, 129, 12, 4095, 255);
        Texts.rules(check, Past.SMALLEST.make(), 1, 1, 1, 0, 1, 1, 0, 0);
    }

    private static void cellsThatHaveTwo(Check check) {
        check.sentence("7 CELLS that have 2: all, none, one");
        SqueezedAnswers x = Check.of("chip 8 8 8;");
        check.due("all", x.rule(7), 64);
        for (int i = 0; i < 64; i++) {
            x.set(i / 8, i % 8, i % 2);
            check.due("less " + (i + 1), x.rule(7), 63 - i);
        }
        x.set(7, 7, 2);
        check.due("one", x.rule(7), 1);
        x.out(255);
        check.due("of a chain that is out, too", x.rule(7), 1);
    }
}
