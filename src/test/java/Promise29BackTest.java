/** Promise 29: back. */
public final class Promise29BackTest {
    private static final int BAD = SqueezedAnswers.BAD;
    private static final int STATE = SqueezedAnswers.STATE;

    public static void main(String[] args) {
        Check check = new Check("Promise 29");
        imageBounds(check);
        thereIsNone(check);
        answersChains(check);
        allIsAsTheImage(check);
        restStays(check);
        check.finish();
    }

    private static void imageBounds(Check check) {
        check.sentence("IMAGE k. BAD");
        for (Past past : Past.values()) {
            for (int k : Check.outside(2)) {
                check.unchanged("back " + k, past, BAD, x -> x.back(k));
            }
        }
    }

    private static void thereIsNone(Check check) {
        check.sentence("STATE: there is none");
        check.unchanged("back 0", Past.FRESH, STATE, x -> x.back(0));
        check.unchanged("back 1", Past.FRESH, STATE, x -> x.back(1));
        check.unchanged("back 1", Past.SMALLEST, STATE, x -> x.back(1));
        SqueezedAnswers x = Past.SMALLEST.make();
        check.due("the other is there", x.back(0), 1);
        x.text();
        check.due("a text has taken it", x.back(0), STATE);
    }

    private static void answersChains(Check check) {
        check.sentence("All is as IMAGE k: CHAINS");
        SqueezedAnswers none = new SqueezedAnswers();
        none.keep(1);
        check.due("no chains", none.back(1), 0);
        for (int chains = 1; chains <= 8; chains++) {
            SqueezedAnswers x = Check.of("chip " + chains + " 3 2;");
            x.keep(0);
            check.due("chains", x.back(0), chains);
        }
    }

    private static void allIsAsTheImage(Check check) {
        check.sentence("All is as IMAGE k");
        SqueezedAnswers x = Check.of("chip 2 2 2;column 0 0;column 1 1;out 1;register 5 3;poly 2;cell 0 0 1;");
        x.want(1, 1, 1);
        x.dump(0, 1);
        int suspects = x.suspects(0);
        x.keep(0);
        x.set(0, 0, 0);
        x.want(1, 1, 0);
        x.put(0, 3);
        x.out(0);
        x.clear(0);
        x.keep(1);
        check.due("back", x.back(0), 2);
        Texts.rules(check, x, 2, 2, 2, 2, 5, 3, 2, 3);
        check.due("cell", x.cell(0, 0, 0), 1);
        check.due("want", x.cell(1, 1, 1), 1);
        check.due("column", x.column(0), 1);
        check.due("suspects", x.suspects(0), suspects);
        check.due("the other", x.back(1), 2);
        check.due("its cell", x.cell(0, 0, 0), 0);
        check.due("its want", x.cell(1, 1, 1), 0);
        check.due("its column", x.column(0), 3);
        check.due("its out", x.rule(3), 0);
        check.due("its suspects", x.suspects(0), 65536 + 15);
    }

    private static void restStays(Check check) {
        check.sentence("All is as IMAGE k: THE TAPE, the SHEETS, the FAULTS, the IMAGES are none of it");
        for (int k = 0; k < 2; k++) {
            int image = k;
            check.same("back", Look.FAULTS, Past.MIXED, x -> x.back(image), x -> 0);
            check.same("back", Look.TAPE, Past.MIXED, x -> x.back(image), x -> 0);
            check.same("back", Look.IMAGE_0, Past.MIXED, x -> x.back(image), x -> 0);
            check.same("back", Look.IMAGE_1, Past.MIXED, x -> x.back(image), x -> 0);
            SqueezedAnswers x = Past.MIXED.make();
            x.back(k);
            check.due("images", x.count(0), 2);
            check.due("bytes", x.count(2), Past.MIXED.make().count(2));
            check.due("cells of sheet 0", x.count(3), 12);
            check.due("what was laid", x.read(0, 0, 0, 13), 4);
            check.due("it came", x.cell(2, 1, 0), 1);
        }
    }
}
