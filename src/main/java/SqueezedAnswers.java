import java.util.Arrays;

/** Answers of a chip under test, squeezed through a network of outputs; README.md says how to use it. */
public final class SqueezedAnswers {
    public static final int BAD = -1, STATE = -2, FULL = -3, NONE = -4;

    private static final int MOST = 8;
    private static final int UNKNOWN = 2;
    private static final int MOST_BITS = 12;
    private static final int TAPE_BYTES = 160;
    private static final int IMAGES = 2;
    private static final int SHEETS = 4;
    private static final int LANES = 3;
    private static final int SHEET_CELLS = 40;
    private static final int MOST_TRIPLES = 13;
    private static final int FAULT_BASE = -10;
    private static final int REFUSED_BASE = -20;
    private static final int NULL_FAULT = 1, INDEX_FAULT = 2, CAST_FAULT = 3, SIZE_FAULT = 4;

    private final TextReader reader;
    private int textFault;
    private final Chip chip;
    private final Chip[] images;
    private final boolean[] kept;
    private final Register register;
    private final Signer signer;
    private final Sheet[] sheets;
    private int readFault;

    public SqueezedAnswers() {
        reader = new TextReader();
        chip = new Chip();
        images = new Chip[IMAGES];
        for (int k = 0; k < IMAGES; k++) {
            images[k] = new Chip();
        }
        kept = new boolean[IMAGES];
        register = new Register();
        signer = new Signer();
        sheets = new Sheet[SHEETS];
        for (int k = 0; k < SHEETS; k++) {
            sheets[k] = new Sheet();
        }
    }

    // ---- the text

    public int feed(int c) {
        if (c < 0 || c > 127) {
            return BAD;
        }
        return reader.tape.append(c) ? reader.tape.length : FULL;
    }

    public int end(int n) {
        int had = reader.tape.length;
        if (n < 0 || n > had) {
            return BAD;
        }
        reader.tape.length = n;
        return had;
    }

    public int text() {
        int lines = reader.takeText();
        reader.tape.length = 0;
        textFault = reader.fault;
        if (textFault != 0) {
            return FAULT_BASE - reader.faultPlace;
        }
        chip.becomeLike(reader.draft);
        for (int k = 0; k < IMAGES; k++) {
            kept[k] = false;
        }
        return lines;
    }

    public int fault() {
        return textFault;
    }

    public int rule(int what) {
        switch (what) {
            case 0: return chip.chains;
            case 1: return chip.length;
            case 2: return chip.outputs;
            case 3: return chip.outChains;
            case 4: return chip.bits;
            case 5: return chip.taps;
            case 6: return chip.poly;
            case 7: return chip.cellsWith(UNKNOWN);
            default: return BAD;
        }
    }

    public int cell(int c, int t, int what) {
        if (!chip.hasCell(c, t)) {
            return BAD;
        }
        switch (what) {
            case 0: return chip.cells[Chip.at(c, t)];
            case 1: return chip.wants[Chip.at(c, t)];
            case 2: return chip.isWatched(c, t, chip.outChains, chip.blurred(t, chip.outChains)) ? 1 : 0;
            default: return BAD;
        }
    }

    public int column(int c) {
        return chip.hasChain(c) ? chip.columns[c] : BAD;
    }

    // ---- what is seen

    public int seen(int t, int o) {
        if (t < 0 || t >= chip.length || o < 0 || o >= chip.outputs) {
            return BAD;
        }
        return chip.seenAt(t, o);
    }

    public int weak(int what) {
        if (what < 0 || what > 2) {
            return BAD;
        }
        int found = 0;
        for (int c = 0; c < chip.chains; c++) {
            if (chip.isWeak(c, what)) {
                found++;
            }
        }
        return found;
    }

    public int hidden(int e, int u, int what) {
        if (e < 1 || e > MOST || !isUnknowns(u) || what < 0 || what > 1) {
            return BAD;
        }
        return chip.choices(e, u, what == 1);
    }

    public int sure(int u) {
        if (!isUnknowns(u)) {
            return BAD;
        }
        for (int e = 1; e <= MOST; e++) {
            if (chip.choices(e, u, true) > 0) {
                return e - 1;
            }
        }
        return MOST;
    }

    public int hides(int some) {
        int inside = chip.chainsInside();
        if ((some & ~inside) != 0) {
            return BAD;
        }
        int others = inside & ~some;
        int cover = chip.coverOf(some);
        for (int errors = 1; errors <= others; errors++) {
            if ((errors & ~others) == 0 && (chip.sumOf(errors) & ~cover) == 0) {
                return errors;
            }
        }
        return NONE;
    }

    public int watched() {
        return chip.watchedWithout(chip.outChains);
    }

    public int best() {
        int least = 0;
        int most = chip.watchedWithout(0);
        int all = chip.allChains();
        for (int some = 1; some <= all; some++) {
            int now = chip.watchedWithout(some);
            if (now > most) {
                most = now;
                least = some;
            }
        }
        return least;
    }

    private static boolean isUnknowns(int u) {
        return u >= 0 && u <= MOST;
    }

    // ---- changes

    public int set(int c, int t, int v) {
        if (!chip.takes(c, t, v)) {
            return BAD;
        }
        return exchange(chip.cells, Chip.at(c, t), v);
    }

    public int put(int c, int some) {
        if (!chip.hasChain(c) || (some & ~chip.allOutputs()) != 0) {
            return BAD;
        }
        return exchange(chip.columns, c, some);
    }

    public int out(int some) {
        if ((some & ~chip.allChains()) != 0) {
            return BAD;
        }
        int was = chip.outChains;
        chip.outChains = some;
        return was;
    }

    public int draw(int seed) {
        int now = seed;
        for (int c = 0; c < chip.chains; c++) {
            for (int t = 0; t < chip.length; t++) {
                now = now * 1103515245 + 12345;
                chip.cells[Chip.at(c, t)] = drawnCell((now >>> 16) & 0x7FFF);
            }
        }
        return chip.cellsWith(UNKNOWN);
    }

    private static int drawnCell(int got) {
        int rest = got % 5;
        if (rest == 2 || rest == 4) {
            return UNKNOWN;
        }
        return rest == 1 ? 1 : 0;
    }

    private static int exchange(int[] row, int i, int v) {
        int was = row[i];
        row[i] = v;
        return was;
    }

    // ---- seeds

    public int want(int c, int t, int v) {
        if (!chip.takes(c, t, v)) {
            return BAD;
        }
        return exchange(chip.wants, Chip.at(c, t), v);
    }

    public int brought(int seed, int c, int t) {
        if (seed < 0 || seed >= (1 << chip.bits) || !chip.hasCell(c, t)) {
            return BAD;
        }
        register.begin(chip);
        for (int cycle = 0; cycle < t; cycle++) {
            register.move();
        }
        return Register.parity(register.formOf(c) & seed);
    }

    public int seed(int what) {
        if (what < 0 || what > 1) {
            return BAD;
        }
        Equations wanted = register.wantedOf(chip);
        if (wanted.contradicts) {
            return NONE;
        }
        return what == 0 ? wanted.leastSolution() : chip.bits - wanted.rank;
    }

    // ---- signatures

    public int signature() {
        int sum = 0;
        for (int t = 0; t < chip.length; t++) {
            if (chip.blurred(t, chip.outChains) != 0) {
                return NONE;
            }
            sum = Signer.moved(chip, sum);
            for (int o = 0; o < chip.outputs; o++) {
                sum ^= chip.seenAt(t, o) << o;
            }
        }
        return sum;
    }

    public int alias(int what) {
        if (what < 0 || what > 2) {
            return BAD;
        }
        signer.gather(chip);
        switch (what) {
            case 0: return signer.freedom();
            case 1: return signer.lonely();
            default: return signer.pairs();
        }
    }

    // ---- a chain that sticks

    public int suspects(int c) {
        return chip.hasChain(c) ? chip.suspicions[c] : BAD;
    }

    public int dump(int c, int d) {
        if (!chip.hasChain(c) || d < 0 || d >= (1 << chip.length)) {
            return BAD;
        }
        chip.suspicions[c] &= chip.explanations(c, d);
        return Integer.bitCount(chip.suspicions[c]);
    }

    public int clear(int c) {
        if (!chip.hasChain(c)) {
            return BAD;
        }
        return Integer.bitCount(exchange(chip.suspicions, c, chip.allSuspicions()));
    }

    // ---- images, sheets

    public int keep(int k) {
        if (!isImage(k)) {
            return BAD;
        }
        int was = kept[k] ? 1 : 0;
        images[k].becomeLike(chip);
        kept[k] = true;
        return was;
    }

    public int back(int k) {
        if (!isImage(k)) {
            return BAD;
        }
        if (!kept[k]) {
            return STATE;
        }
        chip.becomeLike(images[k]);
        return chip.chains;
    }

    public int differs(int k, int what) {
        if (!isImage(k) || what < 0 || what > 1) {
            return BAD;
        }
        if (!kept[k] || !chip.isShapedLike(images[k])) {
            return STATE;
        }
        return what == 0 ? chip.seenOtherwise(images[k]) : chip.cellsOtherwise(images[k]);
    }

    public int sheet(int k, int lane, int n) {
        if (!isSheet(k) || !isLane(lane) || n > SHEET_CELLS) {
            return BAD;
        }
        if (n < 0) {
            return FAULT_BASE - SIZE_FAULT;
        }
        sheets[k].renew(lane, n);
        return 1;
    }

    public int lay(int k, int i, int v) {
        if (!isSheet(k)) {
            return BAD;
        }
        Sheet sheet = sheets[k];
        int found = sheet.faultAt(sheet.lane, i, 1);
        if (found != 0) {
            return FAULT_BASE - found;
        }
        sheet.write(i, v);
        return 1;
    }

    public int read(int k, int lane, int f, int n) {
        if (!isSheet(k) || !isLane(lane) || n < 0 || n > MOST_TRIPLES) {
            return BAD;
        }
        Sheet sheet = sheets[k];
        int whole = 0;
        int found = 0;
        for (int i = 0; i < n && found == 0; i++) {
            // f + 3 * i can't wrap: the first triple that is not inside the sheet ends the loop.
            int from = f + 3 * i;
            found = sheet.faultAt(lane, from, 3);
            if (found == 0) {
                if (!chip.takes(sheet.cells[from], sheet.cells[from + 1], sheet.cells[from + 2])) {
                    return REFUSED_BASE - i;
                }
                whole++;
            }
        }
        takeTriples(sheet, f, whole);
        readFault = found;
        return whole;
    }

    public int torn() {
        return readFault;
    }

    public int count(int what) {
        switch (what) {
            case 0: return imagesKept();
            case 1: return chip.cellsWith(1);
            case 2: return reader.tape.length;
            case 3: return sheets[0].isNothing() ? NONE : sheets[0].length;
            case 4: return chip.wantsTold();
            case 5: return chip.columnBits();
            default: return BAD;
        }
    }

    private void takeTriples(Sheet sheet, int f, int whole) {
        for (int i = 0; i < whole; i++) {
            int from = f + 3 * i;
            chip.cells[Chip.at(sheet.cells[from], sheet.cells[from + 1])] = sheet.cells[from + 2];
        }
    }

    private int imagesKept() {
        int found = 0;
        for (int k = 0; k < IMAGES; k++) {
            if (kept[k]) {
                found++;
            }
        }
        return found;
    }

    private static boolean isImage(int k) {
        return k >= 0 && k < IMAGES;
    }

    private static boolean isSheet(int k) {
        return k >= 0 && k < SHEETS;
    }

    private static boolean isLane(int lane) {
        return lane >= 0 && lane < LANES;
    }

    /** All that an image keeps; rows have room for the largest chip, so that no call makes a new one. */
    private static final class Chip {
        private static final int NOWHERE = 1 << 16;

        int chains;
        int length;
        int outputs;
        int outChains;
        int bits;
        int taps;
        int poly;
        final int[] cells = new int[MOST * MOST];
        final int[] wants = new int[MOST * MOST];
        final int[] columns = new int[MOST];
        final int[] suspicions = new int[MOST];

        Chip() {
            forget();
        }

        void forget() {
            chains = 0;
            length = 0;
            outputs = 0;
            outChains = 0;
            bits = 4;
            taps = 1;
            poly = 1;
            Arrays.fill(cells, UNKNOWN);
            Arrays.fill(wants, UNKNOWN);
            Arrays.fill(columns, 0);
        }

        void suspectAll() {
            Arrays.fill(suspicions, allSuspicions());
        }

        void becomeLike(Chip other) {
            chains = other.chains;
            length = other.length;
            outputs = other.outputs;
            outChains = other.outChains;
            bits = other.bits;
            taps = other.taps;
            poly = other.poly;
            System.arraycopy(other.cells, 0, cells, 0, MOST * MOST);
            System.arraycopy(other.wants, 0, wants, 0, MOST * MOST);
            System.arraycopy(other.columns, 0, columns, 0, MOST);
            System.arraycopy(other.suspicions, 0, suspicions, 0, MOST);
        }

        static int at(int c, int t) {
            return MOST * c + t;
        }

        static boolean isIn(int c, int some) {
            return ((some >> c) & 1) == 1;
        }

        boolean hasChain(int c) {
            return c >= 0 && c < chains;
        }

        boolean hasCell(int c, int t) {
            return hasChain(c) && t >= 0 && t < length;
        }

        boolean takes(int c, int t, int v) {
            return hasCell(c, t) && v >= 0 && v <= UNKNOWN;
        }

        int allChains() {
            return (1 << chains) - 1;
        }

        int allOutputs() {
            return (1 << outputs) - 1;
        }

        int chainsInside() {
            return allChains() & ~outChains;
        }

        int cellsWith(int v) {
            int found = 0;
            for (int c = 0; c < chains; c++) {
                for (int t = 0; t < length; t++) {
                    if (cells[at(c, t)] == v) {
                        found++;
                    }
                }
            }
            return found;
        }

        int wantsTold() {
            int found = 0;
            for (int c = 0; c < chains; c++) {
                for (int t = 0; t < length; t++) {
                    if (wants[at(c, t)] != UNKNOWN) {
                        found++;
                    }
                }
            }
            return found;
        }

        int columnBits() {
            int found = 0;
            for (int c = 0; c < chains; c++) {
                found += Integer.bitCount(columns[c]);
            }
            return found;
        }

        int seenAt(int t, int o) {
            int sum = 0;
            for (int c = 0; c < chains; c++) {
                if (!isIn(c, outChains) && isIn(o, columns[c])) {
                    int v = cells[at(c, t)];
                    if (v == UNKNOWN) {
                        return UNKNOWN;
                    }
                    sum ^= v;
                }
            }
            return sum;
        }

        /** The outputs at which 2 is seen in a cycle, if those of leftOut are out. */
        int blurred(int t, int leftOut) {
            int some = 0;
            for (int c = 0; c < chains; c++) {
                if (!isIn(c, leftOut) && cells[at(c, t)] == UNKNOWN) {
                    some |= columns[c];
                }
            }
            return some;
        }

        boolean isWatched(int c, int t, int leftOut, int blur) {
            return cells[at(c, t)] != UNKNOWN && !isIn(c, leftOut) && (columns[c] & ~blur) != 0;
        }

        int watchedWithout(int leftOut) {
            int found = 0;
            for (int t = 0; t < length; t++) {
                int blur = blurred(t, leftOut);
                for (int c = 0; c < chains; c++) {
                    if (isWatched(c, t, leftOut, blur)) {
                        found++;
                    }
                }
            }
            return found;
        }

        boolean isWeak(int c, int what) {
            switch (what) {
                case 0: return columns[c] == 0;
                case 1: return Integer.bitCount(columns[c]) % 2 == 0;
                default: return repeatsLower(c);
            }
        }

        boolean repeatsLower(int c) {
            for (int lower = 0; lower < c; lower++) {
                if (columns[lower] == columns[c]) {
                    return true;
                }
            }
            return false;
        }

        int sumOf(int some) {
            int sum = 0;
            for (int c = 0; c < chains; c++) {
                if (isIn(c, some)) {
                    sum ^= columns[c];
                }
            }
            return sum;
        }

        int coverOf(int some) {
            int cover = 0;
            for (int c = 0; c < chains; c++) {
                if (isIn(c, some)) {
                    cover |= columns[c];
                }
            }
            return cover;
        }

        static boolean isChoice(int some, int n, int of) {
            return (some & ~of) == 0 && Integer.bitCount(some) == n;
        }

        int choices(int e, int u, boolean onlyHidden) {
            int inside = chainsInside();
            int found = 0;
            for (int errors = 1; errors <= inside; errors++) {
                if (isChoice(errors, e, inside)) {
                    found += choicesBeside(errors, u, inside & ~errors, onlyHidden);
                }
            }
            return found;
        }

        int choicesBeside(int errors, int u, int rest, boolean onlyHidden) {
            int sum = sumOf(errors);
            int found = 0;
            for (int others = 0; others <= rest; others++) {
                if (isChoice(others, u, rest) && (!onlyHidden || (sum & ~coverOf(others)) == 0)) {
                    found++;
                }
            }
            return found;
        }

        int allSuspicions() {
            return NOWHERE | ((1 << (2 * length)) - 1);
        }

        int explanations(int c, int d) {
            int some = mayDump(c, d, length, 0) ? NOWHERE : 0;
            for (int place = 0; place < length; place++) {
                for (int v = 0; v <= 1; v++) {
                    if (mayDump(c, d, place, v)) {
                        some |= 1 << (2 * place + v);
                    }
                }
            }
            return some;
        }

        /** Sticking nowhere is a place behind the last cell: then no cell is at it or behind it. */
        boolean mayDump(int c, int d, int place, int v) {
            for (int t = 0; t < length; t++) {
                int is = t < place ? cells[at(c, t)] : v;
                if (is != UNKNOWN && is != ((d >> t) & 1)) {
                    return false;
                }
            }
            return true;
        }

        boolean isShapedLike(Chip other) {
            return chains == other.chains && length == other.length && outputs == other.outputs;
        }

        static boolean isOtherwise(int one, int other) {
            return one != UNKNOWN && other != UNKNOWN && one != other;
        }

        int seenOtherwise(Chip other) {
            int found = 0;
            for (int t = 0; t < length; t++) {
                for (int o = 0; o < outputs; o++) {
                    if (isOtherwise(seenAt(t, o), other.seenAt(t, o))) {
                        found++;
                    }
                }
            }
            return found;
        }

        int cellsOtherwise(Chip other) {
            int found = 0;
            for (int c = 0; c < chains; c++) {
                for (int t = 0; t < length; t++) {
                    if (isOtherwise(cells[at(c, t)], other.cells[at(c, t)])) {
                        found++;
                    }
                }
            }
            return found;
        }
    }

    /** Sums modulo 2 of unknown bits that are due; a bit above the unknowns, DUE, tells that a sum is to be 1. */
    private static final class Equations {
        private static final int DUE = 1 << MOST_BITS;

        // The row at b has b as its lowest bit: so b follows from higher bits, as the least solution needs it.
        private final int[] rows = new int[MOST_BITS];
        int rank;
        boolean contradicts;

        void begin() {
            Arrays.fill(rows, 0);
            rank = 0;
            contradicts = false;
        }

        void add(int form) {
            int rest = form;
            for (int b = 0; b < MOST_BITS; b++) {
                if (((rest >> b) & 1) == 1) {
                    if (rows[b] == 0) {
                        rows[b] = rest;
                        rank++;
                        return;
                    }
                    rest ^= rows[b];
                }
            }
            if (rest != 0) {
                contradicts = true;
            }
        }

        int leastSolution() {
            int solution = DUE;
            for (int b = MOST_BITS - 1; b >= 0; b--) {
                solution |= Register.parity(rows[b] & solution) << b;
            }
            return solution & ~DUE;
        }
    }

    /** The register with a form in place of each bit: the bits of the seed of which it is the sum. */
    private static final class Register {
        private final int[] forms = new int[MOST_BITS];
        private final Equations equations = new Equations();
        private int bits = 1;
        private int taps;

        static int parity(int some) {
            return Integer.bitCount(some) & 1;
        }

        void begin(Chip chip) {
            // Kept between the bounds here too: bits is an index and a divisor below.
            bits = Math.max(1, Math.min(chip.bits, MOST_BITS));
            taps = chip.taps;
            for (int b = 0; b < MOST_BITS; b++) {
                forms[b] = b < bits ? 1 << b : 0;
            }
        }

        void move() {
            int sum = 0;
            for (int b = 0; b < bits; b++) {
                if (((taps >> b) & 1) == 1) {
                    sum ^= forms[b];
                }
            }
            for (int b = 1; b < bits; b++) {
                forms[b - 1] = forms[b];
            }
            forms[bits - 1] = sum;
        }

        int formOf(int c) {
            return forms[3 * c % bits];
        }

        Equations wantedOf(Chip chip) {
            equations.begin();
            begin(chip);
            for (int t = 0; t < chip.length; t++) {
                for (int c = 0; c < chip.chains; c++) {
                    int want = chip.wants[Chip.at(c, t)];
                    if (want != UNKNOWN) {
                        equations.add(want == 1 ? formOf(c) | Equations.DUE : formOf(c));
                    }
                }
                move();
            }
            return equations;
        }
    }

    /** What an error in each cell, alone, does to the signature: errors add up, so that is all there is to know. */
    private static final class Signer {
        private final int[] effects = new int[MOST * MOST];
        private final Equations span = new Equations();
        private int errors;

        static int moved(Chip chip, int sum) {
            int up = sum << 1;
            if ((up & ~chip.allOutputs()) != 0) {
                up ^= chip.poly;
            }
            return up & chip.allOutputs();
        }

        void gather(Chip chip) {
            errors = 0;
            for (int c = 0; c < chip.chains; c++) {
                if (!Chip.isIn(c, chip.outChains)) {
                    gatherChain(chip, c);
                }
            }
        }

        // An error in the last cycle is not moved any more, one in the cycle ahead of it once, and so on.
        private void gatherChain(Chip chip, int c) {
            int effect = chip.columns[c];
            for (int t = chip.length - 1; t >= 0; t--) {
                effects[errors] = effect;
                errors++;
                effect = moved(chip, effect);
            }
        }

        int freedom() {
            span.begin();
            for (int i = 0; i < errors; i++) {
                span.add(effects[i]);
            }
            return errors - span.rank;
        }

        int lonely() {
            int found = 0;
            for (int i = 0; i < errors; i++) {
                if (effects[i] == 0) {
                    found++;
                }
            }
            return found;
        }

        int pairs() {
            int found = 0;
            for (int i = 0; i < errors; i++) {
                for (int j = 0; j < i; j++) {
                    if (effects[i] == effects[j]) {
                        found++;
                    }
                }
            }
            return found;
        }
    }

    /** A row of a lane; its cells hold what a row of bytes, shorts or ints would, so that one row serves all lanes. */
    private static final class Sheet {
        private static final int NO_LANE = -1;

        int lane = NO_LANE;
        int length;
        final int[] cells = new int[SHEET_CELLS];

        boolean isNothing() {
            return lane == NO_LANE;
        }

        void renew(int newLane, int n) {
            lane = newLane;
            length = n;
            Arrays.fill(cells, 0);
        }

        /** The fault that a machine finds when it takes n cells from one on; nothing can be taken as any lane. */
        int faultAt(int asLane, int from, int n) {
            if (isNothing()) {
                return NULL_FAULT;
            }
            if (asLane != lane) {
                return CAST_FAULT;
            }
            return from < 0 || from > length - n ? INDEX_FAULT : 0;
        }

        void write(int i, int v) {
            switch (lane) {
                case 0: cells[i] = (byte) v; break;
                case 1: cells[i] = (short) v; break;
                default: cells[i] = v; break;
            }
        }
    }

    /** The bytes, and one token of them at a time. */
    private static final class Tape {
        static final int WRONG = 0, NAME = 1, NUMBER = 2, SEMICOLON = 3, END = 4;
        private static final int MOST_FIGURES = 4;

        private final byte[] bytes = new byte[TAPE_BYTES];
        int length;
        private int behind;
        int kind;
        int place;
        int value;

        boolean append(int c) {
            if (length >= TAPE_BYTES) {
                return false;
            }
            bytes[length] = (byte) c;
            length++;
            return true;
        }

        void begin() {
            behind = 0;
            advance();
        }

        void advance() {
            place = behind;
            while (place < length && bytes[place] == ' ') {
                place++;
            }
            behind = place;
            if (place >= length) {
                kind = END;
            } else if (isLetter(place)) {
                takeName();
            } else if (isFigure(place)) {
                takeNumber();
            } else {
                kind = bytes[place] == ';' ? SEMICOLON : WRONG;
                behind = place + 1;
            }
        }

        private boolean isLetter(int i) {
            return bytes[i] >= 'a' && bytes[i] <= 'z';
        }

        private boolean isFigure(int i) {
            return bytes[i] >= '0' && bytes[i] <= '9';
        }

        private void takeName() {
            kind = NAME;
            while (behind < length && isLetter(behind)) {
                behind++;
            }
        }

        private void takeNumber() {
            value = 0;
            while (behind < length && isFigure(behind)) {
                // Figures beyond the most are refused below, so they need not count.
                if (behind - place < MOST_FIGURES) {
                    value = 10 * value + bytes[behind] - '0';
                }
                behind++;
            }
            kind = behind - place > MOST_FIGURES ? WRONG : NUMBER;
        }

        boolean isName(String word) {
            if (kind != NAME || behind - place != word.length()) {
                return false;
            }
            for (int i = 0; i < word.length(); i++) {
                if (bytes[place + i] != word.charAt(i)) {
                    return false;
                }
            }
            return true;
        }
    }

    /** Reads a text into a draft, so that what stands is not touched until the text is known to be whole. */
    private static final class TextReader {
        private static final int CHIP = 0, COLUMN = 1, OUT = 2, REGISTER = 3, POLY = 4, CELL = 5, NO_LINE = 6;
        private static final int NO_TOKEN = 1, MISPLACED = 2, OUT_OF_BOUNDS = 3, TWICE = 4, NOT_THERE = 6;

        final Tape tape = new Tape();
        final Chip draft = new Chip();
        int fault;
        int faultPlace;
        private int once;
        private int lineChain;
        private int lineCell;
        private int chainsTold;
        private int cellsTold;
        private int outputsTold;

        int takeText() {
            draft.forget();
            fault = 0;
            once = 0;
            chainsTold = 0;
            cellsTold = 0;
            outputsTold = 0;
            int lines = 0;
            tape.begin();
            while (lines < TAPE_BYTES && fault == 0 && tape.kind != Tape.END) {
                takeLine();
                lines++;
            }
            if (fault == 0 && tellsWhatIsNotThere()) {
                fault = NOT_THERE;
                faultPlace = tape.length;
            }
            draft.suspectAll();
            return lines;
        }

        private void refuse(int why) {
            fault = tape.kind == Tape.WRONG ? NO_TOKEN : why;
            faultPlace = tape.place;
        }

        private void takeLine() {
            int line = lineOfName();
            if (line == NO_LINE) {
                refuse(MISPLACED);
            } else if (((once >> line) & 1) == 1) {
                refuse(TWICE);
            } else {
                if (line == CHIP || line == REGISTER || line == POLY) {
                    once |= 1 << line;
                }
                tape.advance();
                takeNumbers(line);
            }
        }

        private int lineOfName() {
            if (tape.isName("chip")) {
                return CHIP;
            }
            if (tape.isName("column")) {
                return COLUMN;
            }
            if (tape.isName("out")) {
                return OUT;
            }
            if (tape.isName("register")) {
                return REGISTER;
            }
            if (tape.isName("poly")) {
                return POLY;
            }
            return tape.isName("cell") ? CELL : NO_LINE;
        }

        private void takeNumbers(int line) {
            int least = leastNumbers(line);
            int most = line == COLUMN || line == OUT ? TAPE_BYTES : least;
            int i = 0;
            while (i < most && fault == 0 && tape.kind == Tape.NUMBER) {
                if (tape.value < lowest(line, i) || tape.value > highest(line, i)) {
                    refuse(OUT_OF_BOUNDS);
                } else {
                    tell(line, i, tape.value);
                    tape.advance();
                }
                i++;
            }
            if (fault == 0) {
                if (i < least || tape.kind != Tape.SEMICOLON) {
                    refuse(MISPLACED);
                } else {
                    tape.advance();
                }
            }
        }

        private static int leastNumbers(int line) {
            switch (line) {
                case COLUMN:
                case REGISTER: return 2;
                case OUT:
                case POLY: return 1;
                default: return 3;
            }
        }

        private static int lowest(int line, int i) {
            return line == CHIP || (line == REGISTER && i == 0) ? 1 : 0;
        }

        private static int highest(int line, int i) {
            switch (line) {
                case CHIP: return MOST;
                case REGISTER: return i == 0 ? MOST_BITS : (1 << MOST_BITS) - 1;
                case POLY: return (1 << MOST) - 1;
                case CELL: return i == 2 ? UNKNOWN : MOST - 1;
                default: return MOST - 1;
            }
        }

        private void tell(int line, int i, int v) {
            if (line == OUT || (i == 0 && (line == COLUMN || line == CELL))) {
                tellChain(v);
            }
            switch (line) {
                case CHIP: tellChip(i, v); break;
                case COLUMN: tellColumn(i, v); break;
                case OUT: draft.outChains |= 1 << v; break;
                case REGISTER: tellRegister(i, v); break;
                case POLY: draft.poly = v; break;
                default: tellCell(i, v); break;
            }
        }

        private void tellChain(int c) {
            chainsTold = Math.max(chainsTold, c + 1);
            lineChain = c;
        }

        private void tellChip(int i, int v) {
            switch (i) {
                case 0: draft.chains = v; break;
                case 1: draft.length = v; break;
                default: draft.outputs = v; break;
            }
        }

        private void tellColumn(int i, int v) {
            if (i > 0) {
                outputsTold = Math.max(outputsTold, v + 1);
                draft.columns[lineChain] |= 1 << v;
            }
        }

        private void tellRegister(int i, int v) {
            if (i == 0) {
                draft.bits = v;
            } else {
                draft.taps = v;
            }
        }

        private void tellCell(int i, int v) {
            if (i == 1) {
                cellsTold = Math.max(cellsTold, v + 1);
                lineCell = v;
            } else if (i == 2) {
                draft.cells[Chip.at(lineChain, lineCell)] = v;
            }
        }

        // Without a chip there are 0 of each, so that any that is told is one too many; poly counts only if told.
        private boolean tellsWhatIsNotThere() {
            boolean polyTold = ((once >> POLY) & 1) == 1;
            return chainsTold > draft.chains || cellsTold > draft.length || outputsTold > draft.outputs
                || (draft.taps >> draft.bits) != 0
                || (polyTold && (draft.poly & ~draft.allOutputs()) != 0);
        }
    }
}
