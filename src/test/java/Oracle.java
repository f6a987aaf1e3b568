import java.util.ArrayList;
import java.util.HashMap;
import java.util.LinkedHashMap;
import java.util.List;
import java.util.Map;

/**
 * The document written down once more, as plainly as can be and without regard for time: every run is run,
 * every view is a text, every heap a list. RandomTest holds the class against it.
 */
final class Oracle {
    private static final int BAD = -1, STATE = -2, FULL = -3, NONE = -9;

    /** One statement of the tree. */
    private static final class Node {
        int number;
        String kind;
        int target;
        Expr sum;
        List<Node> inner = new ArrayList<>();
        List<Node> otherwise = new ArrayList<>();
    }

    /** A part of a sum. */
    private static final class Expr {
        String sign;
        int value;
        Expr left;
        Expr right;
    }

    private static final class Fault extends Exception {
        private static final long serialVersionUID = 1L;
        final int place;

        Fault(int place) {
            this.place = place;
        }
    }

    private static final class Result {
        int[] before = new int[6];
        int[] cells = new int[6];
        int steps;
        int cameOut;
        List<int[]> tape = new ArrayList<>();
    }

    private final int[] level = new int[6];
    private String text = "";
    private List<Node> program = new ArrayList<>();
    private List<Node> all = new ArrayList<>();
    private Result latest = new Result();

    // ---- reading

    private String[] words;
    private int[] places;
    private int at;
    private List<Node> reading;
    private int operands;

    private void cut() {
        List<String> found = new ArrayList<>();
        List<Integer> where = new ArrayList<>();
        int p = 0;
        while (p < text.length()) {
            char c = text.charAt(p);
            int q = p + 1;
            if (isLetter(c)) {
                while (q < text.length() && isLetter(text.charAt(q))) q++;
            } else if (c >= '0' && c <= '9') {
                while (q < text.length() && text.charAt(q) >= '0' && text.charAt(q) <= '9') q++;
            }
            if (c != ' ') {
                found.add(text.substring(p, q));
                where.add(p);
            }
            p = q;
        }
        found.add("");
        where.add(text.length());
        words = found.toArray(new String[0]);
        places = where.stream().mapToInt(Integer::intValue).toArray();
        at = 0;
    }

    private static boolean isLetter(char c) {
        return c < 128 && Character.isLetter(c);
    }

    private boolean sees(String word) {
        return words[at].equals(word);
    }

    private boolean seesCell() {
        return words[at].length() == 1 && "abcdef".contains(words[at]);
    }

    private Fault fault() {
        return new Fault(places[at]);
    }

    private void need(String word) throws Fault {
        if (!sees(word)) throw fault();
        at++;
    }

    private int needNumber(int greatest) throws Fault {
        String w = words[at];
        if (w.length() != 1 || w.charAt(0) < '0' || w.charAt(0) > '0' + greatest) throw fault();
        at++;
        return w.charAt(0) - '0';
    }

    private List<Node> statements(int open) throws Fault {
        List<Node> list = new ArrayList<>();
        while (sees("out") || sees("if") || sees("loop") || seesCell()) {
            if (reading.size() == 30) throw fault();
            Node n = new Node();
            n.number = reading.size();
            reading.add(n);
            list.add(n);
            if (seesCell()) {
                n.kind = "=";
                n.target = words[at++].charAt(0) - 'a';
                need("=");
                n.sum = wholeSum();
                need(";");
            } else if (sees("out")) {
                n.kind = words[at++];
                n.target = needNumber(3);
                n.sum = wholeSum();
                need(";");
            } else if (sees("if")) {
                n.kind = words[at++];
                n.sum = wholeSum();
                n.inner = braced(open);
                if (sees("else")) {
                    at++;
                    n.otherwise = braced(open);
                }
            } else {
                n.kind = words[at++];
                n.target = needNumber(8);
                n.inner = braced(open);
            }
        }
        return list;
    }

    private List<Node> braced(int open) throws Fault {
        if (sees("{") && open == 6) throw fault();
        need("{");
        List<Node> list = statements(open + 1);
        need("}");
        return list;
    }

    private Expr wholeSum() throws Fault {
        operands = 0;
        return sum(0);
    }

    private Expr join(String sign, Expr left, Expr right) {
        Expr e = new Expr();
        e.sign = sign;
        e.left = left;
        e.right = right;
        return e;
    }

    private Expr sum(int open) throws Fault {
        Expr e = term(open);
        while (sees("+") || sees("-")) {
            String sign = words[at++];
            e = join(sign, e, term(open));
        }
        return e;
    }

    private Expr term(int open) throws Fault {
        Expr e = factor(open);
        while (sees("*") || sees("&")) {
            String sign = words[at++];
            e = join(sign, e, factor(open));
        }
        return e;
    }

    private Expr factor(int open) throws Fault {
        if (sees("!") || sees("(")) {
            if (open == 8) throw fault();
            if (words[at++].equals("!")) return join("!", factor(open + 1), null);
            Expr e = sum(open + 1);
            if (sees("<") || sees("=")) {
                String sign = words[at++];
                e = join(sign, e, sum(open + 1));
            }
            need(")");
            return e;
        }
        if (operands == 24) throw fault();
        Expr e = new Expr();
        if (seesCell()) {
            e.sign = "cell";
            e.value = words[at++].charAt(0) - 'a';
        } else {
            e.sign = "number";
            e.value = needNumber(3);
        }
        operands++;
        return e;
    }

    // ---- running

    private static int value(Expr e, int[] cells) {
        switch (e.sign) {
            case "number": return e.value;
            case "cell": return cells[e.value];
            case "!": return value(e.left, cells) == 0 ? 1 : 0;
            default: break;
        }
        int l = value(e.left, cells);
        int r = value(e.right, cells);
        switch (e.sign) {
            case "+": return (l + r) % 4;
            case "-": return (l - r + 4) % 4;
            case "*": return l * r % 4;
            case "&": return l & r;
            case "<": return l < r ? 1 : 0;
            default: return l == r ? 1 : 0;
        }
    }

    private static void run(List<Node> list, Result r, List<Node> without) {
        for (Node n : list) {
            if (without.contains(n)) continue;
            if (r.steps == 400) return;
            r.steps++;
            switch (n.kind) {
                case "=": r.cells[n.target] = value(n.sum, r.cells); break;
                case "out":
                    r.cameOut++;
                    if (r.tape.size() < 20) r.tape.add(new int[] {value(n.sum, r.cells), n.target});
                    break;
                case "if": run(value(n.sum, r.cells) != 0 ? n.inner : n.otherwise, r, without); break;
                default: for (int k = 0; k < n.target; k++) run(n.inner, r, without); break;
            }
        }
    }

    private Result run(int[] cells, List<Node> without) {
        Result r = new Result();
        r.before = cells.clone();
        r.cells = cells.clone();
        run(program, r, without);
        return r;
    }

    // ---- seeing

    private boolean within(int l, int w) {
        return (l | w) == w;
    }

    private String view(Result r, int w, int time) {
        StringBuilder s = new StringBuilder();
        for (int c = 0; c < 6; c++) {
            if (within(level[c], w)) s.append(r.before[c]).append(r.cells[c]).append(',');
        }
        s.append('/');
        for (int[] t : r.tape) {
            if (within(t[1], w)) s.append(t[0]);
        }
        if (time == 1) s.append('/').append(r.steps);
        return s.toString();
    }

    /** How many numbers the cells within w (or those that are not) can have. */
    private int size(int w, boolean inside) {
        int n = 1;
        for (int c = 0; c < 6; c++) {
            if (within(level[c], w) == inside) n *= 4;
        }
        return n;
    }

    private int[] cells(int w, int open, int secret) {
        int[] cells = new int[6];
        for (int c = 0; c < 6; c++) {
            if (within(level[c], w)) {
                cells[c] = open % 4;
                open /= 4;
            } else {
                cells[c] = secret % 4;
                secret /= 4;
            }
        }
        return cells;
    }

    private String view(int w, int time, int open, int secret, List<Node> without) {
        return view(run(cells(w, open, secret), without), w, time);
    }

    private Map<String, List<Integer>> heapsOf(int w, int time, int open) {
        Map<String, List<Integer>> map = new LinkedHashMap<>();
        for (int s = 0; s < size(w, false); s++) {
            map.computeIfAbsent(view(w, time, open, s, List.of()), k -> new ArrayList<>()).add(s);
        }
        return map;
    }

    private int[] firstPair(int w, int time, List<Node> without) {
        for (int o = 0; o < size(w, true); o++) {
            String due = view(w, time, o, 0, without);
            for (int s = 1; s < size(w, false); s++) {
                if (!view(w, time, o, s, without).equals(due)) return new int[] {o, s};
            }
        }
        return null;
    }

    private boolean good(int w, int time, int what) {
        return w >= 0 && w <= 3 && time >= 0 && time <= 1 && what >= 0 && what <= 1;
    }

    // ---- the face

    int level(int cell, int v) {
        if (cell < 0 || cell > 5 || v < 0 || v > 3) return BAD;
        int was = level[cell];
        level[cell] = v;
        return was;
    }

    int type(long v, int n) {
        if (n < 1 || n > 8) return BAD;
        if (text.length() + n > 300) return FULL;
        for (int k = n - 1; k >= 0; k--) text += (char) (v >> 8 * k & 255);
        return text.length();
    }

    int clear() {
        int had = text.length();
        text = "";
        return had;
    }

    int read() {
        cut();
        reading = new ArrayList<>();
        try {
            List<Node> whole = statements(0);
            if (at != words.length - 1) throw fault();
            program = whole;
            all = reading;
            text = "";
            return all.size();
        } catch (Fault f) {
            return -10 - f.place;
        }
    }

    int run(int numbers) {
        if (numbers < 0 || numbers > 4095) return BAD;
        latest = run(cells(3, numbers, 0), List.of());
        int end = 0;
        for (int c = 5; c >= 0; c--) end = end * 4 + latest.cells[c];
        return end;
    }

    int ran(int what) {
        return what == 0 ? latest.steps : what == 1 ? latest.cameOut : what == 2 ? latest.tape.size() : BAD;
    }

    int tape(int i, int what) {
        return i < 0 || i >= latest.tape.size() || what < 0 || what > 1 ? BAD : latest.tape.get(i)[what];
    }

    int heaps(int w, int time, int open, int what) {
        if (!good(w, time, what) || open < 0 || open >= size(w, true)) return BAD;
        Map<String, List<Integer>> heaps = heapsOf(w, time, open);
        return what == 0 ? heaps.size() : heaps.values().stream().mapToInt(List::size).max().orElse(0);
    }

    int heap(int w, int time, int open, int secret, int what) {
        if (!good(w, time, what) || open < 0 || open >= size(w, true)) return BAD;
        if (secret < 0 || secret >= size(w, false)) return BAD;
        for (List<Integer> heap : heapsOf(w, time, open).values()) {
            if (heap.contains(secret)) return what == 0 ? heap.size() : heap.get(0);
        }
        throw new IllegalStateException();
    }

    int safe(int w, int time) {
        if (!good(w, time, 0)) return BAD;
        return firstPair(w, time, List.of()) == null ? 1 : 0;
    }

    int pair(int w, int time, int what) {
        if (!good(w, time, what)) return BAD;
        int[] pair = firstPair(w, time, List.of());
        return pair == null ? NONE : pair[what];
    }

    int most(int w, int time, int what) {
        if (!good(w, time, what)) return BAD;
        int best = 0;
        int open = 0;
        for (int o = 0; o < size(w, true); o++) {
            int n = heapsOf(w, time, o).size();
            if (n > best) {
                best = n;
                open = o;
            }
        }
        return what == 0 ? open : best;
    }

    int together(int w, int time, int open, int other) {
        if (!good(w, time, 0) || open < 0 || open >= size(w, true) || other < 0 || other >= size(w, true)) return BAD;
        Map<String, Integer> seen = new HashMap<>();
        for (int s = 0; s < size(w, false); s++) {
            seen.put(view(w, time, open, s, List.of()) + "//" + view(w, time, other, s, List.of()), s);
        }
        return seen.size();
    }

    int both(int time, int open) {
        if (!good(0, time, 0) || open < 0 || open >= size(0, true)) return BAD;
        Map<String, Integer> seen = new HashMap<>();
        for (int s = 0; s < size(0, false); s++) {
            Result r = run(cells(0, open, s), List.of());
            seen.put(view(r, 1, time) + "//" + view(r, 2, time), s);
        }
        return seen.size();
    }

    private int levelOf(Expr e, int[] levels) {
        if (e == null) return 0;
        if (e.sign.equals("cell")) return levels[e.value];
        return levelOf(e.left, levels) | levelOf(e.right, levels);
    }

    private void hold(List<Node> list, int to, int[] levels, int[] held) {
        for (Node n : list) {
            held[n.number] = to;
            int under = to | levelOf(n.sum, levels);
            hold(n.inner, under, levels, held);
            hold(n.otherwise, under, levels, held);
        }
    }

    private int[] heldTo(int[] levels) {
        int[] held = new int[all.size()];
        hold(program, 0, levels, held);
        return held;
    }

    private boolean leaks(Node n, int[] levels) {
        int flow = levelOf(n.sum, levels) | heldTo(levels)[n.number];
        if (n.kind.equals("=")) return !within(flow, levels[n.target]);
        return n.kind.equals("out") && !within(flow, n.target);
    }

    int flows(int what) {
        if (what < 0 || what > 1) return BAD;
        List<Integer> leaking = new ArrayList<>();
        for (Node n : all) {
            if (leaks(n, level)) leaking.add(n.number);
        }
        return what == 0 ? leaking.size() : leaking.isEmpty() ? NONE : leaking.get(0);
    }

    int statement(int i, int what) {
        if (i < 0 || i >= all.size() || what < 0 || what > 3) return BAD;
        Node n = all.get(i);
        if (what == 0) return heldTo(level)[i];
        if (what == 1) return levelOf(n.sum, level);
        return what == 2 ? leaks(n, level) ? 1 : 0 : List.of("=", "out", "if", "loop").indexOf(n.kind);
    }

    /** Of all levels that are enough, what each cell has in every one of them. */
    int raised(int cell) {
        if (cell < 0 || cell > 5) return BAD;
        int least = 3;
        for (int code = 0; code < 4096; code++) {
            int[] levels = new int[6];
            boolean enough = true;
            for (int c = 0; c < 6; c++) {
                levels[c] = code >> 2 * c & 3;
                enough &= within(level[c], levels[c]);
            }
            if (!enough || within(least, levels[cell])) continue;
            for (Node n : all) enough = enough && !(n.kind.equals("=") && leaks(n, levels));
            if (enough) least &= levels[cell];
        }
        return least;
    }

    int stop(int w, int time, int what) {
        if (!good(w, time, what)) return BAD;
        List<Node> outs = new ArrayList<>();
        for (Node n : all) {
            if (n.kind.equals("out")) outs.add(n);
        }
        if (outs.size() > 8) return STATE;
        int best = -1;
        for (int set = 0; set < 1 << outs.size(); set++) {
            if (best >= 0 && Integer.bitCount(set) >= Integer.bitCount(best)) continue;
            List<Node> without = new ArrayList<>();
            for (int k = 0; k < outs.size(); k++) {
                if ((set >> k & 1) == 1) without.add(outs.get(k));
            }
            if (firstPair(w, time, without) == null) best = set;
        }
        return best < 0 ? NONE : what == 0 ? Integer.bitCount(best) : best;
    }

    int tooMuch() {
        return flows(0) > 0 && safe(0, 0) == 1 && safe(1, 0) == 1 && safe(2, 0) == 1 ? 1 : 0;
    }

    int count(int what) {
        if (what == 0) return all.size();
        if (what == 1) return (int) all.stream().filter(n -> n.kind.equals("out")).count();
        if (what == 2) return text.length();
        if (what < 0 || what > 6) return BAD;
        int many = 0;
        for (int l : level) {
            if (l == what - 3) many++;
        }
        return many;
    }
}
