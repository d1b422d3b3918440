import java.util.ArrayList;
import java.util.List;
import java.util.regex.Matcher;
import java.util.regex.Pattern;

/** A text read by the document's grammar; a fault ends the reading by an exception of its own. */
final class ModelText {
    int fault;
    int place;
    int lines;
    int[] chip;
    int[] register;
    int[] poly;
    final List<int[]> columns = new ArrayList<>();
    final List<int[]> outs = new ArrayList<>();
    final List<int[]> cells = new ArrayList<>();
    private final String text;
    private int at;
    private String token;
    private int tokenPlace;

    private static final class Fault extends RuntimeException {
        private static final long serialVersionUID = 1;
        final int what;
        final int where;

        Fault(int what, int where) {
            this.what = what;
            this.where = where;
        }
    }

    ModelText(String text) {
        this.text = text;
        try {
            next();
            while (!token.isEmpty()) {
                line();
                lines++;
            }
            whole();
        } catch (Fault f) {
            fault = f.what;
            place = f.where;
        }
    }

    private void next() {
        while (at < text.length() && text.charAt(at) == ' ') at++;
        tokenPlace = at;
        String rest = text.substring(at);
        Matcher m = Pattern.compile("[a-z]+|[0-9]+|;").matcher(rest);
        if (rest.isEmpty()) {
            token = "";
        } else if (m.lookingAt() && !m.group().matches("[0-9]{5,}")) {
            token = m.group();
            at += token.length();
        } else {
            throw new Fault(1, at);
        }
    }

    private int number(int low, int high) {
        if (!token.matches("[0-9]+")) throw new Fault(2, tokenPlace);
        int v = Integer.parseInt(token);
        if (v < low || v > high) throw new Fault(3, tokenPlace);
        next();
        return v;
    }

    private void line() {
        String name = token;
        boolean again = name.equals("chip") && chip != null || name.equals("register") && register != null
            || name.equals("poly") && poly != null;
        if (again) throw new Fault(4, tokenPlace);
        if (!List.of("chip", "register", "poly", "column", "out", "cell").contains(name)) throw new Fault(2, tokenPlace);
        next();
        switch (name) {
            case "chip" -> chip = new int[] {number(1, 8), number(1, 8), number(1, 8)};
            case "register" -> register = new int[] {number(1, 12), number(0, 4095)};
            case "poly" -> poly = new int[] {number(0, 255)};
            case "column" -> columns.add(more(number(0, 7), number(0, 7)));
            case "out" -> outs.add(more(number(0, 7)));
            default -> cells.add(new int[] {number(0, 7), number(0, 7), number(0, 2)});
        }
        if (!token.equals(";")) throw new Fault(2, tokenPlace);
        next();
    }

    private int[] more(int... first) {
        List<Integer> all = new ArrayList<>();
        for (int v : first) all.add(v);
        while (token.matches("[0-9]+")) all.add(number(0, 7));
        return all.stream().mapToInt(v -> v).toArray();
    }

    private void whole() {
        boolean wrong = chip == null && !(columns.isEmpty() && outs.isEmpty() && cells.isEmpty());
        if (chip != null) {
            for (int[] one : columns) {
                wrong |= one[0] >= chip[0];
                for (int i = 1; i < one.length; i++) wrong |= one[i] >= chip[2];
            }
            for (int[] one : outs) for (int c : one) wrong |= c >= chip[0];
            for (int[] one : cells) wrong |= one[0] >= chip[0] || one[1] >= chip[1];
        }
        wrong |= register != null && register[1] >= 1 << register[0];
        wrong |= poly != null && poly[0] >= 1 << (chip == null ? 0 : chip[2]);
        if (wrong) throw new Fault(6, text.length());
    }
}
