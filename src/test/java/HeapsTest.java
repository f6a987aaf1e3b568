/** Promises 9 to 15: heaps, heap, safe, pair, most, together, both. */
public final class HeapsTest {
    private static final int BAD = WatchedPrograms.BAD;
    private static final int NONE = WatchedPrograms.NONE;

    public static void main(String[] args) {
        views();
        greatAndLeast();
        packing();
        pairs();
        most();
        together();
        both();
        wrongNumbers();
        afterChanges();
        Check.end("HeapsTest");
    }

    private static void heaps(String levels, String text, int w, int time, int many, int greatest) {
        WatchedPrograms x = Check.with(levels, text);
        Check.due("heaps of " + text + " for " + w, x.heaps(w, time, 0, 0), many);
        Check.due("greatest heap of " + text + " for " + w, x.heaps(w, time, 0, 1), greatest);
    }

    private static void views() {
        heaps("333333", "", 0, 1, 1, 4096);
        heaps("333333", "", 3, 1, 1, 1);
        heaps("300000", "out 0 a;", 0, 0, 4, 1);
        heaps("300000", "out 1 a;", 0, 0, 1, 4);
        heaps("300000", "out 1 a;", 1, 0, 4, 1);
        heaps("300000", "out 1 a;", 2, 0, 1, 4);
        heaps("300000", "out 2 a;", 2, 0, 4, 1);
        heaps("300000", "out 3 a;", 2, 0, 1, 4);
        heaps("300000", "b=a&1;", 0, 0, 2, 2);
        heaps("310000", "b=a&1;", 0, 0, 1, 16);
        heaps("310000", "b=a&1;", 1, 0, 2, 2);
        heaps("310000", "b=a&1;", 2, 0, 1, 16);
        heaps("300000", "b=a;b=0;", 0, 1, 1, 4);
        heaps("300000", "if a{c=c;}", 0, 0, 1, 4);
        heaps("300000", "if a{c=c;}", 0, 1, 2, 3);
        // what is seen of the tape: its order, and how many, but nothing of those beyond
        heaps("300000", "if a{out 0 1;}", 0, 0, 2, 3);
        heaps("300000", "if a{out 0 1;out 0 2;}else{out 0 2;out 0 1;}", 0, 0, 2, 3);
        heaps("300000", "if a{out 0 1;out 3 2;}else{out 3 2;out 0 1;}", 0, 0, 1, 4);
        heaps("300000", "if a{out 0 0;}else{out 0 0;out 0 0;}", 0, 0, 2, 3);
        // the numbers are seen, not the levels that they came out with
        heaps("300000", "if a{out 0 1;}else{out 1 1;}", 1, 0, 1, 4);
        // only what is kept is seen
        heaps("300000", "loop 4{loop 5{out 0 1;}}out 0 a;", 0, 0, 1, 4);
        heaps("300000", "loop 4{loop 5{out 3 1;}}out 0 a;", 0, 0, 1, 4);
        heaps("300000", "loop 3{loop 6{out 0 1;}}out 0 1;out 0 a;", 0, 0, 4, 1);
        // beyond 400 steps nothing comes out
        heaps("300000", "loop 8{loop 8{loop 8{b=1;}}}out 0 a;", 0, 1, 1, 4);
    }

    private static void greatAndLeast() {
        WatchedPrograms x = Check.with("303000", "if (a<c){out 0 1;}else{out 0 0;}");
        Check.due("heaps", x.heaps(0, 0, 0, 0), 2);
        Check.due("the greatest", x.heaps(0, 0, 0, 1), 10);
        Check.due("of 0: many", x.heap(0, 0, 0, 0, 0), 10);
        Check.due("of 0: least", x.heap(0, 0, 0, 0, 1), 0);
        Check.due("of c=1: many", x.heap(0, 0, 0, 4, 0), 6);
        Check.due("of c=3, a=2: least", x.heap(0, 0, 0, 14, 1), 4);
        Check.due("the last secret", x.heap(0, 0, 255, 15, 0), 10);
        x = Check.with("333300", "out 0 a*b;");
        Check.due("cells that don't occur: many", x.heap(0, 0, 0, 255, 0), 2 * 16);
        Check.due("cells that don't occur: least", x.heap(0, 0, 0, 255, 1), 5);
        Check.due("cells that don't occur: greatest", x.heaps(0, 0, 0, 1), 8 * 16);
        x = Check.with("000000", "a=b;");
        Check.due("no secrets: many", x.heap(0, 1, 4095, 0, 0), 1);
        Check.due("no secrets: least", x.heap(0, 1, 4095, 0, 1), 0);
        x = Check.with("123123", "loop 2{a=b;}");
        Check.due("watcher 3 has none", x.heap(3, 1, 4095, 0, 0), 1);
    }

    /** Open a, c, e; secret b, d, f: each told as one number. */
    private static void packing() {
        WatchedPrograms x = Check.with("030303", "if (c=2){out 0 d;}if (e=1){out 0 f&1;}");
        Check.due("open 0", x.heaps(0, 0, 0, 0), 1);
        Check.due("open c=2", x.heaps(0, 0, 2 << 2, 0), 4);
        Check.due("open e=1", x.heaps(0, 0, 1 << 4, 0), 2);
        Check.due("open both", x.heaps(0, 0, 2 << 2 | 1 << 4, 0), 8);
        Check.due("open both and a", x.heaps(0, 0, 3 | 2 << 2 | 1 << 4, 1), 8);
        WatchedPrograms z = Check.with("300000", "if a{f=1;}");
        Check.due("a cell that is only written, f=0", z.heaps(0, 0, 0, 0), 2);
        Check.due("a cell that is only written, f=1", z.heaps(0, 0, 1 << 8, 0), 1);
        Check.due("heap of d=3", x.heap(0, 0, 2 << 2, 63, 1), 3 << 2);
        Check.due("heap of f=3", x.heap(0, 0, 1 << 4, 63, 1), 1 << 4);
        Check.due("first open", x.pair(0, 0, 0), 2 << 2);
        Check.due("first secret", x.pair(0, 0, 1), 1 << 2);
        Check.due("the most", x.most(0, 0, 0), 2 << 2 | 1 << 4);
        Check.due("the most heaps", x.most(0, 0, 1), 8);
        Check.due("together", x.together(0, 0, 2 << 2, 1 << 4), 8);
        Check.due("together the other way", x.together(0, 0, 1 << 4, 2 << 2), 8);
        Check.due("together with nothing", x.together(0, 0, 0, 1 << 4), 2);
        Check.due("both", x.both(0, 2 << 2 | 1 << 4), 8);
    }

    private static void pairs() {
        WatchedPrograms x = Check.with("300000", "if (b=3){out 0 (a=2);}");
        Check.due("safe", x.safe(0, 0), 0);
        Check.due("open", x.pair(0, 0, 0), 3);
        Check.due("secret", x.pair(0, 0, 1), 2);
        Check.due("safe for 3", x.safe(3, 1), 1);
        Check.due("pair for 3", x.pair(3, 1, 0), NONE);
        x = Check.with("300000", "if a{b=0;b=0;}else{b=0;}");
        Check.due("safe without time", x.safe(0, 0), 1);
        Check.due("no pair: open", x.pair(0, 0, 0), NONE);
        Check.due("no pair: secret", x.pair(0, 0, 1), NONE);
        Check.due("not with time", x.safe(0, 1), 0);
        Check.due("pair with time", x.pair(0, 1, 1), 1);
        x = Check.with("120000", "out 1 b;");
        Check.due("for 1", x.safe(1, 0), 0);
        Check.due("for 2", x.safe(2, 0), 1);
        Check.due("for 0", x.safe(0, 0), 1);
        // the secret of 1 is b alone
        Check.due("secret for 1", x.pair(1, 0, 1), 1);
    }

    private static void most() {
        WatchedPrograms x = Check.with("300000", "out 0 a*b;");
        Check.due("open", x.most(0, 0, 0), 1);
        Check.due("heaps", x.most(0, 0, 1), 4);
        x = Check.with("300000", "out 0 a&b;");
        Check.due("open of &", x.most(0, 0, 0), 3);
        x = Check.with("300000", "out 0 (a<b);");
        Check.due("the least of several", x.most(0, 0, 0), 1);
        Check.due("heaps of <", x.most(0, 0, 1), 2);
        x = Check.with("300000", "if (a<b){c=c;}else{c=c;c=c;}");
        Check.due("without time", x.most(0, 0, 1), 1);
        Check.due("without time: open", x.most(0, 0, 0), 0);
        Check.due("with time", x.most(0, 1, 1), 2);
        Check.due("with time: open", x.most(0, 1, 0), 1);
    }

    private static void together() {
        WatchedPrograms x = Check.with("300000", "out 0 (a<b);");
        Check.due("1 and 1", x.together(0, 0, 1, 1), 2);
        Check.due("1 and 2", x.together(0, 0, 1, 2), 3);
        Check.due("0 and 3", x.together(0, 0, 0, 3), 2);
        Check.due("0 and 0", x.together(0, 0, 0, 0), 1);
        x = Check.with("300000", "if (a<b){c=c;}");
        Check.due("without time", x.together(0, 0, 1, 2), 1);
        Check.due("with time", x.together(0, 1, 1, 2), 3);
    }

    private static void both(String levels, String text, int time, int open, int want) {
        WatchedPrograms x = Check.with(levels, text);
        Check.due("both of " + text + " at " + levels, x.both(time, open), want);
    }

    private static void both() {
        both("000000", "a=b;", 1, 4095, 1);
        both("100000", "", 0, 0, 4);
        both("120000", "", 0, 0, 16);
        both("123333", "", 0, 0, 16);
        both("333333", "", 1, 0, 1);
        both("330000", "out 1 a;out 2 b;", 0, 0, 16);
        both("330000", "out 3 a;out 3 b;", 0, 0, 1);
        both("330000", "out 1 a;out 2 a;", 0, 0, 4);
        both("312000", "b=a&1;c=a&2;", 0, 0, 16 * 4);
        both("133000", "if b{c=a;}out 1 c;", 0, 0, 1 * 4 + 3 * 4);
        both("123300", "out 1 c+d;out 2 b;", 0, 3, 16 * 4);
        both("300000", "if a{b=b;}", 0, 0, 1);
        both("300000", "if a{b=b;}", 1, 0, 2);
        both("300000", "if (b=2){out 1 a;}", 0, 0, 1);
        both("300000", "if (b=2){out 1 a;}", 0, 2, 4);
        // each sees its own: who comes first is in neither view
        both("300000", "if a{out 1 1;out 2 1;}else{out 2 1;out 1 1;}", 0, 0, 1);
        both("300000", "if a{out 1 1;out 0 1;}else{out 0 1;out 1 2;}", 0, 0, 2);
    }

    private static void wrongNumbers() {
        WatchedPrograms x = Check.with("310000", "out 0 a;");
        int[] beyond = {-1, Integer.MIN_VALUE, Integer.MAX_VALUE};
        for (int v : beyond) {
            Check.due("heaps: watcher", x.heaps(v, 0, 0, 0), BAD);
            Check.due("heaps: time", x.heaps(0, v, 0, 0), BAD);
            Check.due("heaps: open", x.heaps(0, 0, v, 0), BAD);
            Check.due("heaps: what", x.heaps(0, 0, 0, v), BAD);
            Check.due("heap: watcher", x.heap(v, 0, 0, 0, 0), BAD);
            Check.due("heap: time", x.heap(0, v, 0, 0, 0), BAD);
            Check.due("heap: open", x.heap(0, 0, v, 0, 0), BAD);
            Check.due("heap: secret", x.heap(0, 0, 0, v, 0), BAD);
            Check.due("heap: what", x.heap(0, 0, 0, 0, v), BAD);
            Check.due("safe: watcher", x.safe(v, 0), BAD);
            Check.due("safe: time", x.safe(0, v), BAD);
            Check.due("pair: watcher", x.pair(v, 0, 0), BAD);
            Check.due("pair: time", x.pair(0, v, 0), BAD);
            Check.due("pair: what", x.pair(3, 0, v), BAD);
            Check.due("most: watcher", x.most(v, 0, 0), BAD);
            Check.due("most: time", x.most(0, v, 0), BAD);
            Check.due("most: what", x.most(0, 0, v), BAD);
            Check.due("together: watcher", x.together(v, 0, 0, 0), BAD);
            Check.due("together: time", x.together(0, v, 0, 0), BAD);
            Check.due("together: open", x.together(0, 0, v, 0), BAD);
            Check.due("together: other", x.together(0, 0, 0, v), BAD);
            Check.due("both: time", x.both(v, 0), BAD);
            Check.due("both: open", x.both(0, v), BAD);
        }
        Check.due("watcher 4", x.heaps(4, 0, 0, 0), BAD);
        Check.due("time 2", x.heaps(0, 2, 0, 0), BAD);
        Check.due("what 2", x.heaps(0, 0, 0, 2), BAD);
        Check.due("pair what 2", x.pair(0, 0, 2), BAD);
        Check.due("most what 2", x.most(0, 0, 2), BAD);
        Check.due("heap what 2", x.heap(0, 0, 0, 0, 2), BAD);
        Check.due("open 255 for 0", x.heaps(0, 0, 255, 0), 4);
        Check.due("open 256 for 0", x.heaps(0, 0, 256, 0), BAD);
        Check.due("open 1023 for 1", x.heaps(1, 0, 1023, 0), 4);
        Check.due("open 1024 for 1", x.heaps(1, 0, 1024, 0), BAD);
        Check.due("open 4095 for 3", x.heaps(3, 0, 4095, 0), 1);
        Check.due("open 4096 for 3", x.heaps(3, 0, 4096, 0), BAD);
        Check.due("secret 15 for 0", x.heap(0, 0, 0, 15, 0), 4);
        Check.due("secret 16 for 0", x.heap(0, 0, 0, 16, 0), BAD);
        Check.due("secret 4 for 1", x.heap(1, 0, 0, 4, 0), BAD);
        Check.due("secret 1 for 3", x.heap(3, 0, 0, 1, 0), BAD);
        Check.due("together 255", x.together(0, 0, 255, 255), 4);
        Check.due("together 256", x.together(0, 0, 0, 256), BAD);
        Check.due("both 255", x.both(0, 255), 16);
        Check.due("both 256", x.both(0, 256), BAD);
    }

    /** Answers follow the levels and the program of now. */
    private static void afterChanges() {
        WatchedPrograms x = Check.with("300000", "out 0 a;");
        Check.due("ahead", x.heaps(0, 0, 0, 0), 4);
        x.level(1, 3);
        Check.due("with another secret", x.heaps(0, 0, 0, 1), 4);
        x.level(0, 0);
        Check.due("with a told", x.heaps(0, 0, 0, 0), 1);
        Check.read(x, "out 0 a+b;");
        Check.due("with another program", x.heaps(0, 0, 0, 0), 4);
        Check.read(x, "out 0 a+b");
        Check.due("with a text that is none", x.heaps(0, 0, 0, 0), 4);
        Check.read(x, "");
        Check.due("with an empty one", x.heaps(0, 0, 0, 0), 1);
    }
}
