import java.util.Random;

/** Random runs of calls, the same at each start, held against the Oracle; all promises. */
public final class RandomTest {
    private static final String[] PIECES = {"a", "b", "f", "g", "=", ";", "{", "}", "+", "-", "*", "&", "!", "(", ")", "<",
        "0", "1", "3", "4", "9", "12", "out ", "if ", "else", "loop ", " ", "?", "ab", "A"};

    private final Random random;
    private final WatchedPrograms x = new WatchedPrograms();
    private final Oracle y = new Oracle();
    private final StringBuilder told = new StringBuilder();
    private int cells;
    private int outs;

    private RandomTest(long seed) {
        random = new Random(seed);
        told.append("seed ").append(seed).append(": ");
    }

    public static void main(String[] args) {
        int runs = args.length > 0 ? Integer.parseInt(args[0]) : 400;
        int from = args.length > 1 ? Integer.parseInt(args[1]) : 0;
        for (int seed = from; seed < from + runs; seed++) new RandomTest(seed).play();
        Check.end("RandomTest");
    }

    private void play() {
        cells = 1 + random.nextInt(4);
        for (int round = 0; round < 3; round++) {
            for (int c = 0; c < 6; c++) {
                if (random.nextInt(3) != 0) setLevel(c, random.nextInt(4));
            }
            readProgram();
            for (int k = 0; k < 40; k++) call();
        }
    }

    private void due(String call, int got, int want) {
        Check.due(told + call, got, want);
    }

    private int any(int bound) {
        return random.nextInt(bound);
    }

    /** Mostly within the bound, at times just outside. */
    private int some(int bound) {
        return any(30) == 0 ? any(2) == 0 ? -1 : bound : any(bound);
    }

    private void setLevel(int c, int v) {
        told.append("level(").append(c).append(',').append(v).append(") ");
        due("", x.level(c, v), y.level(c, v));
    }

    private void readProgram() {
        outs = 0;
        String text = any(10) == 0 ? noise() : any(4) == 0 ? atLimits() : statements(0, 1 + any(4));
        if (any(4) == 0) text = spoil(text);
        if (text.length() > 300) text = text.substring(0, 300);
        told.append("'").append(text).append("' ");
        due("clear", x.clear(), y.clear());
        for (int from = 0; from < text.length(); ) {
            int n = Math.min(1 + any(8), text.length() - from);
            long v = random.nextLong();
            for (int i = 0; i < n; i++) v = v << 8 | text.charAt(from + i);
            due("type", x.type(v, n), y.type(v, n));
            from += n;
        }
        due("read", x.read(), y.read());
    }

    private String noise() {
        StringBuilder s = new StringBuilder();
        int n = any(40);
        for (int k = 0; k < n; k++) s.append(PIECES[any(PIECES.length)]);
        return s.toString();
    }

    /** One of the document's limits is just met or just passed. */
    private String atLimits() {
        switch (any(7)) {
            case 0: return Check.repeat(cell() + "=" + factor(4) + ";", 28 + any(4));
            case 1: return Check.repeat("out " + any(4) + " " + factor(4) + ";", 7 + any(3));
            case 2: return nested(5 + any(3));
            case 3: return cell() + "=" + factor(8) + operands(21 + any(5)) + ";out 0 a;";
            case 4: return "out " + any(3) + " " + opened(7 + any(3)) + ";";
            case 5: return "loop 8{loop 8{loop " + (4 + any(4)) + "{" + oneStatement(3) + "}}}" + statements(2, 1 + any(3));
            default: return "loop 3{loop 6{" + oneStatement(3) + "out " + any(4) + " " + factor(4) + ";}}" + statements(2, 1 + any(4));
        }
    }

    private String nested(int depth) {
        if (depth == 0) return oneStatement(4);
        String inner = "{" + nested(depth - 1) + "}";
        int kind = any(3);
        if (kind == 0) return "loop " + any(9) + inner;
        return "if " + factor(4) + (kind == 1 ? inner : "{}else" + inner) + (any(4) == 0 ? oneStatement(4) : "");
    }

    private String operands(int n) {
        StringBuilder s = new StringBuilder();
        for (int k = 0; k < n; k++) s.append("+-*&".charAt(any(4))).append(factor(8));
        return s.toString();
    }

    private String opened(int n) {
        if (n == 0) return factor(8);
        String ahead = any(4) == 0 ? factor(8) + "+" : "";
        if (any(2) == 0) return ahead + "!" + opened(n - 1);
        return ahead + "(" + opened(n - 1) + (any(3) == 0 ? "<" + factor(8) : "") + ")";
    }

    private String spoil(String text) {
        if (text.isEmpty()) return text;
        int p = any(text.length());
        String piece = PIECES[any(PIECES.length)];
        return text.substring(0, p) + piece + text.substring(any(2) == 0 ? p : p + 1);
    }

    private String gap() {
        return any(12) == 0 ? " " : "";
    }

    private String cell() {
        return String.valueOf((char) ('a' + (any(20) == 0 ? any(6) : any(cells))));
    }

    private String statements(int depth, int n) {
        StringBuilder s = new StringBuilder();
        for (int k = 0; k < n; k++) s.append(oneStatement(depth)).append(gap());
        return s.toString();
    }

    private String oneStatement(int depth) {
        int kind = any(depth < 3 ? 10 : 6);
        if (kind < 3) return cell() + gap() + "=" + gap() + sum(0) + gap() + ";";
        if (kind < 6) {
            if (++outs > 5 && any(10) != 0) return cell() + "=" + cell() + ";";
            return "out " + any(4) + " " + sum(0) + ";";
        }
        String inner = "{" + gap() + statements(depth + 1, any(4)) + "}";
        if (kind < 9) return "if " + sum(0) + inner + (any(2) == 0 ? "" : gap() + "else{" + statements(depth + 1, any(3)) + "}");
        return "loop " + any(9) + inner;
    }

    private String sum(int depth) {
        StringBuilder s = new StringBuilder(factor(depth));
        while (any(3) == 0) s.append(gap()).append("+-*&".charAt(any(4))).append(factor(depth));
        return s.toString();
    }

    private String factor(int depth) {
        int kind = any(depth < 4 ? 12 : 8);
        if (kind < 2) return String.valueOf(any(4));
        if (kind < 8) return cell();
        if (kind < 9) return "!" + factor(depth + 1);
        String sign = kind == 9 ? "" : kind == 10 ? "<" : "=";
        return "(" + sum(depth + 1) + (sign.isEmpty() ? "" : sign + sum(depth + 1)) + ")";
    }

    private void call() {
        int w = some(4);
        int time = some(2);
        int what = some(2);
        int inside = 0;
        for (int l = 0; l < 4; l++) {
            if ((l & ~w) == 0) inside += Math.max(0, y.count(3 + l));
        }
        int opens = 1 << 2 * inside;
        int secrets = 4096 / opens;
        int o = some(opens);
        int p = some(opens);
        int s = some(secrets);
        switch (any(22)) {
            case 0: due("run " + o, x.run(o), y.run(o)); break;
            case 1: int ran = some(3); due("ran " + ran, x.ran(ran), y.ran(ran)); break;
            case 2: int i = some(21); due("tape " + i + " " + what, x.tape(i, what), y.tape(i, what)); break;
            case 3: case 4: case 5:
                due("heaps " + w + " " + time + " " + o + " " + what, x.heaps(w, time, o, what), y.heaps(w, time, o, what));
                break;
            case 6: case 7:
                due("heap " + w + " " + time + " " + o + " " + s + " " + what, x.heap(w, time, o, s, what), y.heap(w, time, o, s, what));
                break;
            case 8: due("safe " + w + " " + time, x.safe(w, time), y.safe(w, time)); break;
            case 9: case 10: due("pair " + w + " " + time + " " + what, x.pair(w, time, what), y.pair(w, time, what)); break;
            case 11: due("most " + w + " " + time + " " + what, x.most(w, time, what), y.most(w, time, what)); break;
            case 12: case 13:
                due("together " + w + " " + time + " " + o + " " + p, x.together(w, time, o, p), y.together(w, time, o, p));
                break;
            case 14: int open = some(1 << 2 * y.count(3)); due("both " + time + " " + open, x.both(time, open), y.both(time, open)); break;
            case 15: due("flows " + what, x.flows(what), y.flows(what)); break;
            case 16: int n = some(Math.max(1, y.count(0))); int k = some(4); due("statement " + n + " " + k, x.statement(n, k), y.statement(n, k)); break;
            case 17: int c = some(6); due("raised " + c, x.raised(c), y.raised(c)); break;
            case 18: case 19: due("stop " + w + " " + time + " " + what, x.stop(w, time, what), y.stop(w, time, what)); break;
            case 20: due("tooMuch", x.tooMuch(), y.tooMuch()); break;
            default: int m = some(7); due("count " + m, x.count(m), y.count(m)); break;
        }
    }
}
