import java.util.Random;

/** Every promise at once: runs of 512 calls by a fixed seed, each answer against the model's. */
public final class RandomRunsTest {
    private static final int RUNS = 1500;
    private static final int CALLS = 512;

    private final Check check = new Check("RandomRunsTest");
    private final Random random = new Random(2026);
    private SqueezedAnswers x;
    private Model m;
    private int calls;

    public static void main(String[] args) {
        RandomRunsTest test = new RandomRunsTest();
        for (int run = 0; run < RUNS; run++) {
            test.run(run);
        }
        test.check.finish();
    }

    private void run(int run) {
        x = new SqueezedAnswers();
        m = new Model();
        calls = 0;
        while (calls < CALLS) {
            if (calls == 0 || random.nextInt(60) == 0) {
                tell(text());
            } else {
                one();
            }
        }
    }

    private void tell(String text) {
        if (calls + text.length() + 2 > CALLS) {
            return;
        }
        for (int i = 0; i < text.length(); i++) {
            due("feed", x.feed(text.charAt(i)), m.feed(text.charAt(i)));
        }
        due("text of " + text, x.text(), m.text());
        due("fault of " + text, x.fault(), m.fault());
    }

    private void due(String call, int got, int want) {
        calls++;
        check.due(call, got, want);
    }

    /** Mostly a small number that fits, now and then one beside it, seldom any at all. */
    private int about(int n) {
        switch (random.nextInt(40)) {
            case 0: return -1;
            case 1: return n;
            case 2: return random.nextInt();
            default: return n <= 0 ? 0 : random.nextInt(n);
        }
    }

    private void one() {
        int chains = m.rule(0);
        int length = m.rule(1);
        int outputs = m.rule(2);
        switch (random.nextInt(5)) {
            case 0: changes(about(chains), about(length), about(3), chains, outputs); break;
            case 1: seen(about(chains), about(length), outputs); break;
            case 2: seeds(about(chains), about(length)); break;
            case 3: images(about(2), about(chains)); break;
            default: sheets(chains, length); break;
        }
    }

    private void changes(int c, int t, int v, int chains, int outputs) {
        int column = about(1 << outputs);
        int some = about(1 << chains);
        int seed = random.nextInt();
        switch (random.nextInt(12)) {
            case 0: due("put " + c + ", " + column, x.put(c, column), m.put(c, column)); break;
            case 1: due("put " + c + ", " + column, x.put(c, column), m.put(c, column)); break;
            case 2: due("out " + some, x.out(some), m.out(some)); break;
            case 3: due("out 0", x.out(0), m.out(0)); break;
            case 4: due("draw " + seed, x.draw(seed), m.draw(seed)); break;
            case 5: due("feed " + v, x.feed(v), m.feed(v)); break;
            case 6: due("end " + t, x.end(t), m.end(t)); break;
            default: due("set " + c + ", " + t + ", " + v, x.set(c, t, v), m.set(c, t, v)); break;
        }
    }

    private void seen(int c, int t, int outputs) {
        int o = about(outputs);
        int e = random.nextInt(4) == 0 ? about(10) : 1 + random.nextInt(3);
        int u = random.nextInt(4) == 0 ? about(10) : random.nextInt(3);
        int what = about(3);
        int some = about(1 << m.rule(0)) & (random.nextBoolean() ? ~m.rule(3) : -1);
        switch (random.nextInt(11)) {
            case 0: due("seen", x.seen(t, o), m.seen(t, o)); break;
            case 1: due("weak", x.weak(what), m.weak(what)); break;
            case 2: due("hidden 1", x.hidden(e, u, 1), m.hidden(e, u, 1)); break;
            case 3: due("hidden " + what, x.hidden(e, u, what), m.hidden(e, u, what)); break;
            case 4: due("sure " + u, x.sure(u), m.sure(u)); break;
            case 5: due("hides " + some, x.hides(some), m.hides(some)); break;
            case 6: due("watched", x.watched(), m.watched()); break;
            case 7: due("best", x.best(), m.best()); break;
            case 8: due("column " + c, x.column(c), m.column(c)); break;
            case 9: due("cell", x.cell(c, t, what), m.cell(c, t, what)); break;
            default:
                int rule = about(8);
                due("rule " + rule, x.rule(rule), m.rule(rule));
                break;
        }
    }

    private void seeds(int c, int t) {
        int v = about(3);
        int seed = about(1 << m.rule(4));
        int what = about(2);
        int alias = about(3);
        switch (random.nextInt(6)) {
            case 0: due("want", x.want(c, t, v), m.want(c, t, v)); break;
            case 1: due("brought", x.brought(seed, c, t), m.brought(seed, c, t)); break;
            case 2:
                if (random.nextInt(4) == 0) {
                    due("seed " + what, x.seed(what), m.seed(what));
                }
                break;
            case 3: due("signature", x.signature(), m.signature()); break;
            case 4: due("alias " + alias, x.alias(alias), m.alias(alias)); break;
            default: kindWant(c, t); break;
        }
    }

    /** Wants that one seed brings, so that there is a seed at all. */
    private void kindWant(int c, int t) {
        int v = m.brought((1 << m.rule(4)) / 3, c, t);
        due("kind want", x.want(c, t, v), m.want(c, t, v));
    }

    private void images(int k, int c) {
        int what = about(2);
        int d = about(1 << m.rule(1));
        int n = about(6);
        switch (random.nextInt(8)) {
            case 0: due("keep " + k, x.keep(k), m.keep(k)); break;
            case 1: due("back " + k, x.back(k), m.back(k)); break;
            case 2:
            case 3: due("differs " + k, x.differs(k, what), m.differs(k, what)); break;
            case 4: due("suspects " + c, x.suspects(c), m.suspects(c)); break;
            case 5: due("dump " + c + ", " + d, x.dump(c, d), m.dump(c, d)); break;
            case 6: due("clear " + c, x.clear(c), m.clear(c)); break;
            default: due("count " + n, x.count(n), m.count(n)); break;
        }
    }

    private void sheets(int chains, int length) {
        int k = about(4);
        int lane = about(3);
        int f = about(10);
        int n = random.nextBoolean() ? about(4) : about(14);
        int size = about(41);
        int v = random.nextInt(8) == 0 ? about(Integer.MAX_VALUE) : about(3);
        switch (random.nextInt(8)) {
            case 0: due("sheet " + size, x.sheet(k, lane, size), m.sheet(k, lane, size)); break;
            case 1:
            case 2: due("lay " + v, x.lay(k, f, v), m.lay(k, f, v)); break;
            case 3: layTriple(k, about(chains) + 256 * random.nextInt(2), about(length), v); break;
            case 4: due("torn", x.torn(), m.torn()); break;
            default: due("read " + k + ", " + lane, x.read(k, lane, f, n), m.read(k, lane, f, n)); break;
        }
    }

    private void layTriple(int k, int c, int t, int v) {
        if (calls + 3 <= CALLS) {
            due("lay chain", x.lay(k, 0, c), m.lay(k, 0, c));
            due("lay cell", x.lay(k, 1, t), m.lay(k, 1, t));
            due("lay value", x.lay(k, 2, v), m.lay(k, 2, v));
        }
    }

    private String text() {
        StringBuilder b = new StringBuilder();
        int chains = 1 + random.nextInt(8);
        int length = 1 + random.nextInt(8);
        int outputs = 1 + random.nextInt(8);
        if (random.nextInt(12) > 0) {
            b.append("chip ").append(chains).append(' ').append(length).append(' ').append(outputs).append(';');
        }
        int lines = random.nextInt(9);
        for (int i = 0; i < lines; i++) {
            b.append(line(about(chains), about(length), about(outputs)));
        }
        if (random.nextInt(4) == 0 && b.length() > 0) {
            spoil(b);
        }
        return b.toString();
    }

    private String line(int c, int t, int o) {
        int bits = random.nextInt(20) == 0 ? random.nextInt(15) : 1 + random.nextInt(12);
        int taps = random.nextInt(20) == 0 ? random.nextInt(5000) : random.nextInt(1 << bits);
        switch (random.nextInt(9)) {
            case 0: return "out " + c + (random.nextBoolean() ? "" : " " + c) + ";";
            case 1: return "register " + bits + " " + taps + ";";
            case 2: return "poly " + (random.nextInt(4) == 0 ? random.nextInt(258) : random.nextInt(o + 1 > 0 ? o + 1 : 1)) + ";";
            case 3:
            case 4: return " cell " + c + " " + t + " " + about(3) + " ; ";
            default: return "column " + c + " " + o + (random.nextBoolean() ? "" : " 0") + ";";
        }
    }

    private void spoil(StringBuilder b) {
        int i = random.nextInt(b.length());
        switch (random.nextInt(5)) {
            case 0: b.setLength(i); break;
            case 1: b.deleteCharAt(i); break;
            case 2: b.setCharAt(i, (char) random.nextInt(128)); break;
            case 3: b.insert(i, "0123456789".charAt(random.nextInt(10))); break;
            default: b.insert(i, " chip"); break;
        }
    }
}
