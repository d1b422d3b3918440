/** Promises 28 to 35: images, sheets, counts. */
public final class ImagesSheetsTest {
    private static final int BAD = SqueezedAnswers.BAD;
    private static final int STATE = SqueezedAnswers.STATE;

    public static void main(String[] args) {
        Check check = new Check("ImagesSheetsTest");
        keepAndBack(check);
        differs(check);
        sheet(check);
        lay(check);
        read(check);
        readRefused(check);
        torn(check);
        count(check);
        check.finish();
    }

    private static void keepAndBack(Check check) {
        SqueezedAnswers x = Check.of("chip 2 2 2;column 0 0;column 1 1;out 1;register 5 3;poly 2;cell 0 0 1;");
        x.want(1, 1, 1);
        x.dump(0, 1);
        int suspects = x.suspects(0);
        check.due("none was", x.keep(0), 0);
        check.due("one was", x.keep(0), 1);
        check.due("the other was not", x.keep(1), 0);
        check.due("no image", x.keep(2), BAD);
        check.due("no image below", x.keep(-1), BAD);
        check.due("two", x.count(0), 2);
        x.set(0, 0, 0);
        x.want(1, 1, 0);
        x.put(0, 3);
        x.out(0);
        x.clear(0);
        x.keep(1);
        Check.feed(x, "chip");
        x.sheet(0, 0, 2);
        check.due("back", x.back(0), 2);
        check.due("cell", x.cell(0, 0, 0), 1);
        check.due("want", x.cell(1, 1, 1), 1);
        check.due("column", x.column(0), 1);
        check.due("out", x.rule(3), 2);
        check.due("bits", x.rule(4), 5);
        check.due("taps", x.rule(5), 3);
        check.due("poly", x.rule(6), 2);
        check.due("suspects", x.suspects(0), suspects);
        check.due("the tape stays", x.count(2), 4);
        check.due("sheets stay", x.count(3), 2);
        x.set(0, 0, 2);
        check.due("an image is not changed", x.back(0), 2);
        check.due("cell again", x.cell(0, 0, 0), 1);
        check.due("the other", x.back(1), 2);
        check.due("its cell", x.cell(0, 0, 0), 0);
        check.due("its column", x.column(0), 3);
        check.due("back of no image", x.back(2), BAD);
        check.due("back below", x.back(-1), BAD);
        x.text();
        check.due("refused, images stay", x.count(0), 2);
        x.text();
        check.due("images are gone", x.count(0), 0);
        check.due("back to none", x.back(0), STATE);
        check.due("none was again", x.keep(1), 0);
        check.due("no chains", x.back(1), 0);
    }

    private static void differs(Check check) {
        SqueezedAnswers x = Check.of("chip 3 2 2;column 0 0;column 1 1;column 2 0 1;");
        check.due("no image", x.differs(0, 0), STATE);
        check.due("no such image", x.differs(2, 0), BAD);
        check.due("no such image below", x.differs(-1, 0), BAD);
        check.due("what above, ahead of none", x.differs(0, 2), BAD);
        check.due("what below", x.differs(0, -1), BAD);
        Check.cells(x, 0, "11");
        Check.cells(x, 1, "00");
        Check.cells(x, 2, "01");
        x.keep(1);
        check.due("nothing seen", x.differs(1, 0), 0);
        check.due("no cells", x.differs(1, 1), 0);
        x.set(2, 0, 1);
        check.due("two outputs", x.differs(1, 0), 2);
        check.due("one cell", x.differs(1, 1), 1);
        x.set(0, 0, 2);
        check.due("one is 2", x.differs(1, 0), 1);
        check.due("its cell is 2", x.differs(1, 1), 1);
        x.keep(0);
        x.set(0, 0, 0);
        check.due("2 in the image", x.differs(0, 0), 0);
        check.due("2 in the image's cell", x.differs(0, 1), 0);
        x.out(4);
        check.due("image by its own out", x.differs(1, 0), 3);
        x.out(0);
        x.put(0, 0);
        check.due("image by its own columns", x.differs(1, 0), 2);
        check.due("cells of chains by number", x.differs(1, 1), 2);
        SqueezedAnswers wide = Check.of("chip 1 5 2;column 0 0 1;");
        Check.cells(wide, 0, "00000");
        wide.keep(0);
        Check.cells(wide, 0, "11111");
        check.due("all cycles, all outputs", wide.differs(0, 0), 10);
        check.due("all cells", wide.differs(0, 1), 5);
        check.due("one chain", wide.back(0), 1);
    }

    private static void sheet(Check check) {
        SqueezedAnswers x = new SqueezedAnswers();
        check.due("largest", x.sheet(0, 2, 40), 1);
        check.due("40 cells", x.count(3), 40);
        check.due("too large", x.sheet(0, 2, 41), BAD);
        check.due("below 0", x.sheet(0, 2, -1), -14);
        check.due("far below 0", x.sheet(0, 2, Integer.MIN_VALUE), -14);
        check.due("no sheet, ahead of below 0", x.sheet(4, 2, -1), BAD);
        check.due("no sheet below", x.sheet(-1, 2, 1), BAD);
        check.due("no lane", x.sheet(0, 3, 1), BAD);
        check.due("no lane below", x.sheet(0, -1, -1), BAD);
        check.due("still 40", x.count(3), 40);
        check.due("of none", x.sheet(0, 0, 0), 1);
        check.due("no cells", x.count(3), 0);
        check.due("another", x.sheet(3, 1, 5), 1);
        check.due("not the first", x.count(3), 0);
    }

    private static void lay(Check check) {
        SqueezedAnswers x = Check.of("chip 1 1 1;");
        check.due("no sheet", x.lay(4, 0, 0), BAD);
        check.due("no sheet below", x.lay(-1, 0, 0), BAD);
        check.due("nothing", x.lay(1, -1, 0), -11);
        x.sheet(1, 0, 3);
        check.due("first", x.lay(1, 0, 0), 1);
        check.due("last", x.lay(1, 2, 0), 1);
        check.due("beyond", x.lay(1, 3, 0), -12);
        check.due("below", x.lay(1, -1, 0), -12);
        int[] whole = {256 + 1, 65536 + 1, 1};
        for (int lane = 0; lane < 3; lane++) {
            x.sheet(1, lane, 3);
            x.set(0, 0, 0);
            x.lay(1, 2, whole[lane]);
            check.due("lowest bits of lane " + lane, x.read(1, lane, 0, 1), 1);
            check.due("read of lane " + lane, x.cell(0, 0, 0), 1);
        }
        x.sheet(1, 0, 3);
        x.lay(1, 2, 255);
        check.due("a byte below 0", x.read(1, 0, 0, 1), -20);
        x.sheet(1, 1, 3);
        x.lay(1, 2, 256);
        check.due("a short holds 256", x.read(1, 1, 0, 1), -20);
        x.lay(1, 2, 65535);
        check.due("a short below 0", x.read(1, 1, 0, 1), -20);
        x.sheet(1, 2, 3);
        x.lay(1, 2, 65536);
        check.due("an int holds 65536", x.read(1, 2, 0, 1), -20);
        x.sheet(1, 2, 3);
        check.due("a new sheet has 0", x.read(1, 2, 0, 1), 1);
        check.due("0 came", x.cell(0, 0, 0), 0);
    }

    private static void triple(SqueezedAnswers x, int k, int from, int c, int t, int v) {
        x.lay(k, from, c);
        x.lay(k, from + 1, t);
        x.lay(k, from + 2, v);
    }

    private static void read(Check check) {
        SqueezedAnswers x = Check.of("chip 2 3 1;");
        x.sheet(2, 0, 11);
        triple(x, 2, 1, 0, 1, 1);
        triple(x, 2, 4, 1, 2, 0);
        triple(x, 2, 7, 0, 1, 0);
        check.due("two", x.read(2, 0, 1, 2), 2);
        check.due("first", x.cell(0, 1, 0), 1);
        check.due("second", x.cell(1, 2, 0), 0);
        check.due("no third", x.rule(7), 4);
        check.due("all three, one behind another", x.read(2, 0, 1, 3), 3);
        check.due("the later one stands", x.cell(0, 1, 0), 0);
        check.due("no fault", x.torn(), 0);
        check.due("beyond the end", x.read(2, 0, 1, 13), 3);
        check.due("index", x.torn(), 2);
        check.due("none", x.read(2, 0, 1, 0), 0);
        check.due("no fault of none", x.torn(), 0);
        x.sheet(0, 1, 40);
        check.due("thirteen", x.read(0, 1, 1, 13), 13);
        check.due("thirteen whole", x.torn(), 0);
        check.due("thirteen from the next", x.read(0, 1, 2, 13), 12);
        check.due("the last one is torn", x.torn(), 2);
        check.due("from the last", x.read(0, 1, 38, 1), 0);
        check.due("from below", x.read(0, 1, -1, 1), 0);
        check.due("from far below", x.read(0, 1, Integer.MIN_VALUE, 13), 0);
        check.due("from far beyond", x.read(0, 1, Integer.MAX_VALUE, 13), 0);
        check.due("from all but the farthest", x.read(0, 1, Integer.MAX_VALUE - 1, 13), 0);
        check.due("index again", x.torn(), 2);
    }

    private static void readRefused(Check check) {
        SqueezedAnswers x = Check.of("chip 2 3 1;");
        x.sheet(2, 2, 9);
        triple(x, 2, 0, 1, 1, 1);
        int[][] wrong = {{2, 0, 0}, {-1, 0, 0}, {0, 3, 0}, {0, -1, 0}, {0, 0, 3}, {0, 0, -1}};
        for (int[] one : wrong) {
            triple(x, 2, 3, one[0], one[1], one[2]);
            check.due("the second is refused", x.read(2, 2, 0, 3), -21);
            check.due("the third is refused by none ahead", x.read(2, 2, 3, 1), -20);
        }
        check.due("none came", x.rule(7), 6);
        check.due("refused ahead of the end", x.read(2, 2, 0, 13), -21);
        check.due("torn ahead of a wrong one", x.read(2, 2, 6, 2), 1);
        triple(x, 2, 6, 5, 5, 5);
        check.due("only part of a wrong one", x.read(2, 2, 7, 1), 0);
        check.due("no sheet", x.read(4, 2, 0, 1), BAD);
        check.due("no sheet below", x.read(-1, 2, 0, 1), BAD);
        check.due("no lane", x.read(2, 3, 0, 1), BAD);
        check.due("no lane below", x.read(2, -1, 0, 1), BAD);
        check.due("too many", x.read(2, 2, 0, 14), BAD);
        check.due("below 0", x.read(2, 2, 0, -1), BAD);
    }

    private static void torn(Check check) {
        SqueezedAnswers x = Check.of("chip 1 1 1;");
        check.due("nothing", x.read(3, 0, -5, 1), 0);
        check.due("null", x.torn(), 1);
        x.sheet(3, 0, 6);
        check.due("another lane, ahead of the index", x.read(3, 1, -5, 2), 0);
        check.due("cast", x.torn(), 3);
        check.due("bad", x.read(3, 0, 0, 14), BAD);
        check.due("bad leaves it", x.torn(), 3);
        x.lay(3, 5, 7);
        check.due("refused", x.read(3, 0, 0, 2), -21);
        check.due("refused leaves it", x.torn(), 3);
        check.due("index", x.read(3, 0, 6, 1), 0);
        check.due("index is asked", x.torn(), 2);
        check.due("whole", x.read(3, 0, 0, 1), 1);
        check.due("whole is asked", x.torn(), 0);
        for (int lane = 1; lane < 3; lane++) {
            x.read(3, lane, 0, 1);
            check.due("bytes as lane " + lane, x.torn(), 3);
        }
        x.text();
        check.due("a text leaves it", x.torn(), 3);
    }

    private static void count(Check check) {
        SqueezedAnswers x = Check.of("chip 3 2 3;column 0 0 1 2;column 2 1;out 0 2;cell 0 0 1;cell 2 1 1;cell 1 1 0;");
        check.due("no images", x.count(0), 0);
        x.keep(1);
        check.due("one image", x.count(0), 1);
        check.due("ones", x.count(1), 2);
        check.due("no tape", x.count(2), 0);
        x.feed(0);
        check.due("tape", x.count(2), 1);
        check.due("no sheet", x.count(3), SqueezedAnswers.NONE);
        x.sheet(1, 0, 4);
        check.due("another sheet", x.count(3), SqueezedAnswers.NONE);
        x.sheet(0, 0, 4);
        check.due("sheet", x.count(3), 4);
        check.due("no wants", x.count(4), 0);
        x.want(2, 1, 0);
        x.want(0, 0, 1);
        check.due("wants", x.count(4), 2);
        check.due("columns, out too", x.count(5), 4);
        check.due("below", x.count(-1), BAD);
        check.due("above", x.count(6), BAD);
    }
}
