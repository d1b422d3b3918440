/** Objects that have been used in some way, so that a call that changes what it should not is found out. */
enum Past {
    /** Nothing has been called. */
    FRESH(0, 0, 0, 4),
    /** No chains, and a tape that is full. */
    FULL_TAPE(0, 0, 0, 4),
    SMALLEST(1, 1, 1, 1),
    /** Of everything a little. */
    MIXED(3, 4, 2, 5),
    LARGEST(8, 8, 8, 12);

    final int chains;
    final int length;
    final int outputs;
    final int bits;

    Past(int chains, int length, int outputs, int bits) {
        this.chains = chains;
        this.length = length;
        this.outputs = outputs;
        this.bits = bits;
    }

    SqueezedAnswers make() {
        switch (this) {
            case FULL_TAPE: return fullTape();
            case SMALLEST: return smallest();
            case MIXED: return mixed();
            case LARGEST: return largest();
            default: return new SqueezedAnswers();
        }
    }

    private static SqueezedAnswers fullTape() {
        SqueezedAnswers x = new SqueezedAnswers();
        Check.feed(x, "chip 2 3 4;column 1 3;out 0;");
        while (x.count(2) < 160) {
            x.feed(' ');
        }
        return x;
    }

    private static SqueezedAnswers smallest() {
        SqueezedAnswers x = Check.of("chip 1 1 1;column 0 0;register 1 1;poly 0;cell 0 0 1;");
        x.want(0, 0, 0);
        x.keep(0);
        x.set(0, 0, 0);
        x.dump(0, 1);
        x.sheet(0, 2, 0);
        x.read(0, 1, 0, 1);
        x.feed(' ');
        return x;
    }

    private static SqueezedAnswers mixed() {
        SqueezedAnswers x = Check.of("chip 3 4 2;column 0 0;column 1 1;column 2 0 1;register 5 9;poly 3;"
            + "cell 0 0 1;cell 0 1 0;cell 1 0 1;cell 2 3 0;");
        x.keep(1);
        x.out(2);
        x.put(0, 3);
        x.want(0, 0, 1);
        x.want(2, 3, 0);
        x.dump(1, 5);
        x.keep(0);
        x.set(2, 0, 1);
        x.want(1, 1, 1);
        x.put(1, 0);
        x.out(4);
        x.dump(2, 15);
        x.sheet(0, 0, 12);
        Check.triple(x, 0, 0, 2, 1, 1);
        Check.triple(x, 0, 6, 0, 2, 2);
        Check.triple(x, 0, 9, 1, 2, 1);
        x.sheet(1, 1, 7);
        Check.triple(x, 1, 3, 2, 2, 1);
        x.sheet(2, 2, 40);
        Check.triple(x, 2, 36, 1, 1, 1);
        x.read(1, 1, 6, 1);
        Check.tell(x, "chip");
        Check.feed(x, "chip 2 2 2;out 1;poly 2");
        return x;
    }

    private static SqueezedAnswers largest() {
        SqueezedAnswers x = Check.of("chip 8 8 8;register 12 4095;poly 255;");
        x.draw(5);
        x.keep(1);
        x.draw(9);
        for (int c = 0; c < 8; c++) {
            x.put(c, 37 * c & 255);
            x.dump(c, 85 * c & 255);
        }
        x.want(7, 7, 1);
        x.out(129);
        x.keep(0);
        x.draw(11);
        x.sheet(3, 2, 40);
        for (int i = 0; i < 13; i++) {
            Check.triple(x, 3, 3 * i, i % 8, 7 - i % 7, i % 3);
        }
        Check.tell(x, "out 7;");
        Check.feed(x, "chip 8 8 7;poly 127");
        return x;
    }
}
