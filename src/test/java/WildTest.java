import java.util.Random;

/** No call may throw or fail to end: wild arguments in wild states, and the dearest programs there can be. */
public final class WildTest {
    private static final int[] EDGES = {Integer.MIN_VALUE, -4096, -1, 0, 1, 2, 3, 4, 5, 6, 7, 8, 9, 63, 64, 255, 256,
        1023, 1024, 4095, 4096, Integer.MAX_VALUE};

    public static void main(String[] args) {
        for (int seed = 0; seed < 60; seed++) wild(new Random(seed));
        dearest();
        Check.end("WildTest");
    }

    private static int edge(Random r) {
        return r.nextInt(3) == 0 ? r.nextInt(8) : EDGES[r.nextInt(EDGES.length)];
    }

    private static void wild(Random r) {
        WatchedPrograms x = new WatchedPrograms();
        for (int k = 0; k < 600; k++) {
            if (r.nextInt(12) == 0) Check.read(x, dear(r));
            int a = edge(r);
            int b = edge(r);
            int c = edge(r);
            int d = edge(r);
            int e = edge(r);
            switch (r.nextInt(21)) {
                case 0: x.level(a, b); break;
                case 1: x.type(r.nextLong(), a); break;
                case 2: x.clear(); break;
                case 3: x.read(); break;
                case 4: x.run(a); break;
                case 5: x.ran(a); break;
                case 6: x.tape(a, b); break;
                case 7: x.heaps(a, b, c, d); break;
                case 8: x.heap(a, b, c, d, e); break;
                case 9: x.safe(a, b); break;
                case 10: x.pair(a, b, c); break;
                case 11: x.most(a, b, c); break;
                case 12: x.together(a, b, c, d); break;
                case 13: x.both(a, b); break;
                case 14: x.flows(a); break;
                case 15: x.statement(a, b); break;
                case 16: x.raised(a); break;
                case 17: x.stop(a, b, c); break;
                case 18: x.tooMuch(); break;
                default: x.count(a); break;
            }
        }
        Check.due("sound at the end", x.count(3) + x.count(4) + x.count(5) + x.count(6), 6);
    }

    private static String dear(Random r) {
        String[] texts = {"", "a=b;", "a", "if a{out 0 b;}else{out 1 c;}", "loop 8{loop 8{loop 8{a=a+b;out 0 c;}}}",
            Check.repeat("out 2 d;", 1 + r.nextInt(9)), Check.repeat("if a{", r.nextInt(8)) + "b=1;" + Check.repeat("}", r.nextInt(8)),
            "a=" + Check.repeat("!", r.nextInt(10)) + "b;", Check.repeat("a=1;", 25 + r.nextInt(10))};
        return texts[r.nextInt(texts.length)];
    }

    /** All six cells, eight outs, 400 steps, long sums: the answers of all queries still come. */
    private static void dearest() {
        String outs = Check.repeat("out 3 a*b+c*d+e*f;", 8);
        WatchedPrograms x = Check.with("333333", "loop 8{loop 8{" + outs + "}}a=0;b=0;c=0;d=0;e=0;f=0;");
        Check.due("stop for 0", x.stop(0, 1, 0), 0);
        Check.due("stop for 2", x.stop(2, 1, 1), 0);
        x = Check.with("333333", "if (a+b+c+d+e+f=3){" + Check.repeat("out 3 f;", 8) + "}");
        Check.due("all eight are to stop", x.stop(0, 1, 1), 255);
        x = Check.with("003333", "if (a&b&c&d&e&f=3){" + Check.repeat("out 0 f;", 7) + "}else{out 3 1;}if (a*b*c=2){a=a+1;}");
        Check.due("nothing helps", x.stop(0, 1, 1), WatchedPrograms.NONE);
        Check.due("heaps", x.heaps(0, 1, 15, 0), 3);
        x = Check.with("333333", "out 0 a;out 0 b;out 0 c;out 0 d;out 0 e;out 0 f;");
        Check.due("as many heaps as can be", x.heaps(0, 1, 0, 0), 4096);
        Check.due("each of one", x.heaps(0, 1, 0, 1), 1);
        Check.due("together", x.together(0, 1, 0, 0), 4096);
    }
}
