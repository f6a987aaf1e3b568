/** Promises 6 to 8: run, ran, tape. */
public final class RunTest {
    public static void main(String[] args) {
        sums();
        statements();
        limits();
        latest();
        Check.end("RunTest");
    }

    /** The value of a sum where the cells are a=1, b=2, c=3, the others 0. */
    private static void sum(String text, int want) {
        WatchedPrograms x = Check.with("", "f=" + text + ";");
        Check.due(text, x.run(1 | 2 << 2 | 3 << 4) >> 10, want);
    }

    private static void sums() {
        sum("a", 1);
        sum("d", 0);
        sum("3", 3);
        sum("c+b", 1);
        sum("a-b", 3);
        sum("b*c", 2);
        sum("c*c", 1);
        sum("b&c", 2);
        sum("a&b", 0);
        sum("a+b*c", 3);
        sum("(a+b)*c", 1);
        sum("a-b-c", 0);
        sum("a-(b-c)", 2);
        sum("c*b&a", 0);
        sum("c&b*a", 2);
        sum("b+b&a", 2);
        sum("!d", 1);
        sum("!a", 0);
        sum("!c", 0);
        sum("!!c", 1);
        sum("!d+c", 0);
        sum("!d*c", 3);
        sum("!(d+c)", 0);
        sum("(a<b)", 1);
        sum("(b<a)", 0);
        sum("(a<a)", 0);
        sum("(a=a)", 1);
        sum("(a=b)", 0);
        sum("(a+b=c)", 1);
        sum("(c+1<a)", 1);
        sum("(a<b)+(b<c)+1", 3);
        sum("1+1+1+1+1+1+1+1+1+1+1+1+1+1+1+1+1+1+1+1+1+1+1+2", 1);
        sum("((((((((a<b)+1<c)+1=c)+0)+1)&3)*3)-1)", 2);
    }

    private static void ends(String text, int from, int want, int steps) {
        WatchedPrograms x = Check.with("", text);
        Check.due(text, x.run(from), want);
        Check.due("steps of " + text, x.ran(0), steps);
    }

    private static void statements() {
        ends("a=3;b=a;c=b;", 0, 63, 3);
        ends("if a{b=1;}", 0, 0, 1);
        ends("if a{b=1;}", 2, 6, 2);
        ends("if a{b=1;}else{b=2;c=1;}", 0, 24, 3);
        ends("if a{b=1;}else{b=2;c=1;}", 3, 7, 2);
        ends("if a{}else{b=1;}", 0, 4, 2);
        ends("if a{}else{b=1;}", 1, 1, 1);
        ends("loop 0{a=1;}", 0, 0, 1);
        ends("loop 3{a=a+1;}b=a;", 0, 15, 5);
        ends("loop 2{loop 3{a=a+1;}}", 0, 2, 9);
        ends("loop 2{if a{b=b+1;}else{a=1;}}", 0, 5, 5);
        ends(Check.repeat("loop 1{", 6) + "a=1;" + Check.repeat("}", 6), 0, 1, 7);
        ends(Check.repeat("if !a{", 6) + "a=1;" + Check.repeat("}", 6), 0, 1, 7);
        ends(Check.repeat("if a{}else{", 6) + "a=1;" + Check.repeat("}", 6), 0, 1, 7);
        ends("a=a+1;", 3, 0, 1);
        ends("f=3;", 0, 3072, 1);
        ends("", 4095, 4095, 0);
    }

    private static void limits() {
        WatchedPrograms x = Check.with("", "loop 8{loop 8{loop 8{a=a+1;}}}");
        Check.due("349 sums, then no step is left", x.run(0), 349 & 3);
        Check.due("400 steps", x.ran(0), 400);
        x = Check.with("", "loop 7{loop 7{loop 7{}}}b=1;");
        Check.due("empty loops cost a step each", x.run(0), 4);
        Check.due("their steps", x.ran(0), 1 + 7 + 49 + 1);
        x = Check.with("", "loop 7{loop 8{a=a+1;out 1 a;b=1;c=2;d=3;e=0;}}e=1;loop 2{f=1;}");
        x.run(0);
        Check.due("all within the limit", x.ran(0), 1 + 7 + 7 * 8 * 6 + 1 + 3);
        Check.due("came out", x.ran(1), 56);
        Check.due("kept", x.ran(2), 20);
        for (int i = 0; i < 20; i++) {
            Check.due("the first are kept", x.tape(i, 0), i + 1 & 3);
            Check.due("with their levels", x.tape(i, 1), 1);
        }
        Check.due("tape at 20", x.tape(20, 0), WatchedPrograms.BAD);
        exactLimit();
    }

    /** What begins as step 400 is done, what would be 401 is not. */
    private static void exactLimit() {
        String ahead = "loop 8{loop 8{" + Check.repeat("a=1;", 5) + "}}" + Check.repeat("loop 7{a=1;}", 3)
            + Check.repeat("loop 8{a=1;}", 5);
        WatchedPrograms x = Check.with("", ahead + "a=1;b=1;c=1;");
        Check.due("a is 1, b is 1, c is not", x.run(0), 5);
        Check.due("steps are 400", x.ran(0), 400);
        x = Check.with("", ahead + "a=1;if a{b=1;}c=1;");
        Check.due("an if as step 400 does nothing", x.run(0), 1);
        Check.due("steps are 400 again", x.ran(0), 400);
        x = Check.with("", ahead + "a=1;");
        x.run(0);
        Check.due("steps are 399", x.ran(0), 399);
    }

    private static void latest() {
        WatchedPrograms x = Check.with("", "out 2 a;out 3 b+1;out 0 1;");
        Check.due("run -1", x.run(-1), WatchedPrograms.BAD);
        Check.due("run 4096", x.run(4096), WatchedPrograms.BAD);
        Check.due("a refused run is none", x.ran(0), 0);
        Check.due("run", x.run(11), 11);
        int[] numbers = {3, 3, 1};
        int[] levels = {2, 3, 0};
        for (int i = 0; i < 3; i++) {
            Check.due("number " + i, x.tape(i, 0), numbers[i]);
            Check.due("level " + i, x.tape(i, 1), levels[i]);
        }
        int[][] wrong = {{-1, 0}, {3, 0}, {0, -1}, {0, 2}, {Integer.MIN_VALUE, 0}, {Integer.MAX_VALUE, 1}};
        for (int[] w : wrong) Check.due("tape " + w[0] + " " + w[1], x.tape(w[0], w[1]), WatchedPrograms.BAD);
        Check.due("ran -1", x.ran(-1), WatchedPrograms.BAD);
        Check.due("ran 3", x.ran(3), WatchedPrograms.BAD);
        x.run(4096);
        x.heaps(0, 1, 0, 0);
        x.stop(0, 0, 0);
        Check.read(x, "a=1;");
        x.safe(0, 0);
        Check.due("the latest run stays: steps", x.ran(0), 3);
        Check.due("the latest run stays: outs", x.ran(1), 3);
        Check.due("the latest run stays: tape", x.tape(1, 1), 3);
        x.run(0);
        Check.due("then there is another", x.ran(1), 0);
        Check.due("with its own tape", x.tape(0, 0), WatchedPrograms.BAD);
    }
}
