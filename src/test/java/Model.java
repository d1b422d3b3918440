import java.util.ArrayList;
import java.util.Arrays;
import java.util.HashSet;
import java.util.List;
import java.util.Set;

/** The document once more, as slow and as plain as may be; its sheets are real rows, and the machine finds their faults. */
final class Model {
    private static final int BAD = -1, STATE = -2, FULL = -3, NONE = -4;

    /** What an image keeps. */
    private static final class State {
        int chains, length, outputs, bits = 4, taps = 1, poly = 1;
        int[][] cell = new int[0][0];
        int[][] want = new int[0][0];
        boolean[][] goes = new boolean[0][0];
        boolean[] out = new boolean[0];
        List<Set<Integer>> suspects = new ArrayList<>();

        State copy() {
            State s = new State();
            s.chains = chains; s.length = length; s.outputs = outputs;
            s.bits = bits; s.taps = taps; s.poly = poly;
            s.cell = Arrays.stream(cell).map(int[]::clone).toArray(int[][]::new);
            s.want = Arrays.stream(want).map(int[]::clone).toArray(int[][]::new);
            s.goes = Arrays.stream(goes).map(boolean[]::clone).toArray(boolean[][]::new);
            s.out = out.clone();
            for (Set<Integer> one : suspects) s.suspects.add(new HashSet<>(one));
            return s;
        }

        Set<Integer> everySuspect() {
            Set<Integer> all = new HashSet<>();
            for (int i = 0; i < 2 * length; i++) all.add(i);
            all.add(16);
            return all;
        }

        int seen(int t, int o) {
            int ones = 0;
            boolean unknown = false;
            for (int c = 0; c < chains; c++) {
                if (out[c] || !goes[c][o]) continue;
                if (cell[c][t] == 2) unknown = true;
                if (cell[c][t] == 1) ones++;
            }
            return unknown ? 2 : ones % 2;
        }

        boolean watched(int c, int t) {
            if (cell[c][t] == 2 || out[c]) return false;
            for (int o = 0; o < outputs; o++) if (goes[c][o] && seen(t, o) != 2) return true;
            return false;
        }

        int watched() {
            int n = 0;
            for (int c = 0; c < chains; c++) for (int t = 0; t < length; t++) if (watched(c, t)) n++;
            return n;
        }

        int signature() {
            int s = 0;
            for (int t = 0; t < length; t++) {
                s = s * 2;
                if (s >= 1 << outputs) s = (s - (1 << outputs)) ^ poly;
                for (int o = 0; o < outputs; o++) {
                    if (seen(t, o) == 2) return NONE;
                    if (seen(t, o) == 1) s = s ^ (1 << o);
                }
            }
            return s;
        }

        boolean isHidden(int errors, int unknown) {
            for (int o = 0; o < outputs; o++) {
                int sum = 0;
                boolean covered = false;
                for (int c = 0; c < chains; c++) {
                    if (goes[c][o] && (errors >> c & 1) == 1) sum++;
                    if (goes[c][o] && (unknown >> c & 1) == 1) covered = true;
                }
                if (sum % 2 == 1 && !covered) return false;
            }
            return true;
        }

        boolean[] bitsOf(int some, int n) {
            boolean[] b = new boolean[n];
            for (int i = 0; i < n; i++) b[i] = (some >> i & 1) == 1;
            return b;
        }

        int mask(boolean[] b) {
            int m = 0;
            for (int i = 0; i < b.length; i++) if (b[i]) m += 1 << i;
            return m;
        }
    }

    private final StringBuilder tape = new StringBuilder();
    private int fault;
    private State s = new State();
    private final State[] images = new State[2];
    private final Object[] sheets = new Object[4];
    private int torn;

    int feed(int c) {
        if (c < 0 || c > 127) return BAD;
        if (tape.length() == 160) return FULL;
        tape.append((char) c);
        return tape.length();
    }

    int end(int n) {
        if (n < 0 || n > tape.length()) return BAD;
        int had = tape.length();
        tape.setLength(n);
        return had;
    }

    int text() {
        ModelText t = new ModelText(tape.toString());
        tape.setLength(0);
        fault = t.fault;
        if (fault != 0) return -10 - t.place;
        State n = new State();
        if (t.chip != null) {
            n.chains = t.chip[0]; n.length = t.chip[1]; n.outputs = t.chip[2];
        }
        if (t.register != null) {
            n.bits = t.register[0]; n.taps = t.register[1];
        }
        if (t.poly != null) n.poly = t.poly[0];
        n.cell = new int[n.chains][n.length];
        n.want = new int[n.chains][n.length];
        n.goes = new boolean[n.chains][n.outputs];
        n.out = new boolean[n.chains];
        for (int c = 0; c < n.chains; c++) {
            Arrays.fill(n.cell[c], 2);
            Arrays.fill(n.want[c], 2);
            n.suspects.add(n.everySuspect());
        }
        for (int[] one : t.columns) for (int i = 1; i < one.length; i++) n.goes[one[0]][one[i]] = true;
        for (int[] one : t.outs) for (int c : one) n.out[c] = true;
        for (int[] one : t.cells) n.cell[one[0]][one[1]] = one[2];
        s = n;
        images[0] = null;
        images[1] = null;
        return t.lines;
    }

    int fault() {
        return fault;
    }

    int rule(int what) {
        int unknown = 0;
        for (int[] chain : s.cell) for (int v : chain) if (v == 2) unknown++;
        int[] all = {s.chains, s.length, s.outputs, s.mask(s.out), s.bits, s.taps, s.poly, unknown};
        return what < 0 || what > 7 ? BAD : all[what];
    }

    private boolean noCell(int c, int t) {
        return c < 0 || c >= s.chains || t < 0 || t >= s.length;
    }

    private boolean noChain(int c) {
        return c < 0 || c >= s.chains;
    }

    int cell(int c, int t, int what) {
        if (noCell(c, t) || what < 0 || what > 2) return BAD;
        return what == 0 ? s.cell[c][t] : what == 1 ? s.want[c][t] : s.watched(c, t) ? 1 : 0;
    }

    int column(int c) {
        return noChain(c) ? BAD : s.mask(s.goes[c]);
    }

    int seen(int t, int o) {
        return t < 0 || t >= s.length || o < 0 || o >= s.outputs ? BAD : s.seen(t, o);
    }

    int weak(int what) {
        if (what < 0 || what > 2) return BAD;
        int n = 0;
        Set<Integer> met = new HashSet<>();
        for (int c = 0; c < s.chains; c++) {
            int bits = Integer.bitCount(column(c));
            boolean again = !met.add(column(c));
            if (what == 0 && bits == 0 || what == 1 && bits % 2 == 0 || what == 2 && again) n++;
        }
        return n;
    }

    int hidden(int e, int u, int what) {
        if (e < 1 || e > 8 || u < 0 || u > 8 || what < 0 || what > 1) return BAD;
        return choose(0, e, u, 0, 0, what == 1);
    }

    /** Each chain in turn has an error, is unknown, or is neither. */
    private int choose(int c, int e, int u, int errors, int unknown, boolean onlyHidden) {
        if (c == s.chains) return e == 0 && u == 0 && (!onlyHidden || s.isHidden(errors, unknown)) ? 1 : 0;
        int n = choose(c + 1, e, u, errors, unknown, onlyHidden);
        if (!s.out[c]) {
            n += choose(c + 1, e - 1, u, errors | 1 << c, unknown, onlyHidden);
            n += choose(c + 1, e, u - 1, errors, unknown | 1 << c, onlyHidden);
        }
        return n;
    }

    int sure(int u) {
        if (u < 0 || u > 8) return BAD;
        int e = 0;
        while (e < 8 && hidden(e + 1, u, 1) == 0) e++;
        return e;
    }

    int hides(int some) {
        if (some < 0 || some >= 1 << s.chains || (some & s.mask(s.out)) != 0) return BAD;
        for (int errors = 1; errors < 1 << s.chains; errors++) {
            if ((errors & some) == 0 && (errors & s.mask(s.out)) == 0 && s.isHidden(errors, some)) return errors;
        }
        return NONE;
    }

    int watched() {
        return s.watched();
    }

    int best() {
        boolean[] was = s.out;
        int best = 0;
        int most = -1;
        for (int some = 0; some < 1 << s.chains; some++) {
            s.out = s.bitsOf(some, s.chains);
            if (s.watched() > most) {
                most = s.watched();
                best = some;
            }
        }
        s.out = was;
        return best;
    }

    int set(int c, int t, int v) {
        if (noCell(c, t) || v < 0 || v > 2) return BAD;
        int was = s.cell[c][t];
        s.cell[c][t] = v;
        return was;
    }

    int put(int c, int some) {
        if (noChain(c) || some < 0 || some >= 1 << s.outputs) return BAD;
        int was = column(c);
        s.goes[c] = s.bitsOf(some, s.outputs);
        return was;
    }

    int out(int some) {
        if (some < 0 || some >= 1 << s.chains) return BAD;
        int was = s.mask(s.out);
        s.out = s.bitsOf(some, s.chains);
        return was;
    }

    int draw(int seed) {
        int now = seed;
        int unknown = 0;
        for (int[] chain : s.cell) {
            for (int t = 0; t < s.length; t++) {
                now = now * 1103515245 + 12345;
                int got = Math.floorMod(now >> 16, 32768);
                chain[t] = "01202".charAt(got % 5) - '0';
                if (chain[t] == 2) unknown++;
            }
        }
        return unknown;
    }

    int want(int c, int t, int v) {
        if (noCell(c, t) || v < 0 || v > 2) return BAD;
        int was = s.want[c][t];
        s.want[c][t] = v;
        return was;
    }

    int brought(int seed, int c, int t) {
        if (seed < 0 || seed >= 1 << s.bits || noCell(c, t)) return BAD;
        return Seeds.bit(seed, s.bits, s.taps, c, t);
    }

    int seed(int what) {
        if (what < 0 || what > 1) return BAD;
        int least = NONE;
        int n = 0;
        for (int seed = (1 << s.bits) - 1; seed >= 0; seed--) {
            boolean all = true;
            for (int c = 0; c < s.chains && all; c++) {
                for (int t = 0; t < s.length && all; t++) {
                    all = s.want[c][t] == 2 || s.want[c][t] == brought(seed, c, t);
                }
            }
            if (all) {
                least = seed;
                n++;
            }
        }
        if (n == 0 || what == 0) return least;
        return 31 - Integer.numberOfLeadingZeros(n);
    }

    int signature() {
        return s.signature();
    }

    int alias(int what) {
        if (what < 0 || what > 2) return BAD;
        List<Integer> effects = new ArrayList<>();
        int[][] were = s.cell;
        s.cell = new int[s.chains][s.length];
        for (int c = 0; c < s.chains; c++) {
            for (int t = 0; t < s.length; t++) {
                s.cell[c][t] = 1;
                if (!s.out[c]) effects.add(s.signature());
                s.cell[c][t] = 0;
            }
        }
        s.cell = were;
        if (what == 0) {
            Set<Integer> reached = new HashSet<>(Set.of(0));
            for (int effect : effects) for (int r : reached.toArray(new Integer[0])) reached.add(r ^ effect);
            return effects.size() - Integer.numberOfTrailingZeros(reached.size());
        }
        int n = 0;
        for (int i = 0; i < effects.size(); i++) {
            if (what == 1 && effects.get(i) == 0) n++;
            for (int j = i + 1; what == 2 && j < effects.size(); j++) if ((effects.get(i) ^ effects.get(j)) == 0) n++;
        }
        return n;
    }

    int suspects(int c) {
        return noChain(c) ? BAD : s.suspects.get(c).stream().mapToInt(i -> 1 << i).sum();
    }

    int dump(int c, int d) {
        if (noChain(c) || d < 0 || d >= 1 << s.length) return BAD;
        s.suspects.get(c).removeIf(i -> !fits(c, d, i));
        return s.suspects.get(c).size();
    }

    private boolean fits(int c, int d, int suspect) {
        for (int t = 0; t < s.length; t++) {
            int bit = d >> t & 1;
            boolean ahead = suspect == 16 || t < suspect / 2;
            if (ahead && s.cell[c][t] != 2 && s.cell[c][t] != bit) return false;
            if (!ahead && suspect % 2 != bit) return false;
        }
        return true;
    }

    int clear(int c) {
        if (noChain(c)) return BAD;
        return s.suspects.set(c, s.everySuspect()).size();
    }

    int keep(int k) {
        if (k < 0 || k > 1) return BAD;
        int was = images[k] == null ? 0 : 1;
        images[k] = s.copy();
        return was;
    }

    int back(int k) {
        if (k < 0 || k > 1) return BAD;
        if (images[k] == null) return STATE;
        s = images[k].copy();
        return s.chains;
    }

    int differs(int k, int what) {
        if (k < 0 || k > 1 || what < 0 || what > 1) return BAD;
        State i = images[k];
        if (i == null || i.chains != s.chains || i.length != s.length || i.outputs != s.outputs) return STATE;
        int n = 0;
        for (int t = 0; t < s.length; t++) {
            for (int o = 0; what == 0 && o < s.outputs; o++) if (s.seen(t, o) + i.seen(t, o) == 1) n++;
            for (int c = 0; what == 1 && c < s.chains; c++) {
                if (s.cell[c][t] != 2 && i.cell[c][t] != 2 && s.cell[c][t] != i.cell[c][t]) n++;
            }
        }
        return n;
    }

    int sheet(int k, int lane, int n) {
        if (k < 0 || k > 3 || lane < 0 || lane > 2 || n > 40) return BAD;
        try {
            sheets[k] = lane == 0 ? new byte[n] : lane == 1 ? new short[n] : new int[n];
            return 1;
        } catch (NegativeArraySizeException e) {
            return -14;
        }
    }

    int lay(int k, int i, int v) {
        if (k < 0 || k > 3) return BAD;
        try {
            if (sheets[k] instanceof byte[] b) b[i] = (byte) v;
            else if (sheets[k] instanceof short[] b) b[i] = (short) v;
            else ((int[]) sheets[k])[i] = v;
            return 1;
        } catch (NullPointerException e) {
            return -11;
        } catch (ArrayIndexOutOfBoundsException e) {
            return -12;
        }
    }

    private int at(int k, int lane, int i) {
        return lane == 0 ? ((byte[]) sheets[k])[i] : lane == 1 ? ((short[]) sheets[k])[i] : ((int[]) sheets[k])[i];
    }

    int read(int k, int lane, int f, int n) {
        if (k < 0 || k > 3 || lane < 0 || lane > 2 || n < 0 || n > 13) return BAD;
        State was = s.copy();
        int found = 0;
        int i = 0;
        try {
            for (; i < n; i++) {
                int c = at(k, lane, f + 3 * i);
                int t = at(k, lane, f + 3 * i + 1);
                int v = at(k, lane, f + 3 * i + 2);
                if (set(c, t, v) == BAD) {
                    s = was;
                    return -20 - i;
                }
            }
        } catch (NullPointerException e) {
            found = 1;
        } catch (ArrayIndexOutOfBoundsException e) {
            found = 2;
        } catch (ClassCastException e) {
            found = 3;
        }
        torn = found;
        return i;
    }

    int torn() {
        return torn;
    }

    int count(int what) {
        int ones = 0;
        int wants = 0;
        int bits = 0;
        for (int c = 0; c < s.chains; c++) {
            for (int t = 0; t < s.length; t++) {
                if (s.cell[c][t] == 1) ones++;
                if (s.want[c][t] != 2) wants++;
            }
            bits += Integer.bitCount(column(c));
        }
        int kept = (images[0] == null ? 0 : 1) + (images[1] == null ? 0 : 1);
        int size = sheets[0] == null ? NONE : java.lang.reflect.Array.getLength(sheets[0]);
        int[] all = {kept, ones, tape.length(), size, wants, bits};
        return what < 0 || what > 5 ? BAD : all[what];
    }
}
