/** Promises 16 to 20: flows, statement, raised, stop, tooMuch. */
public final class FlowTest {
    private static final int BAD = WatchedPrograms.BAD;
    private static final int NONE = WatchedPrograms.NONE;

    public static void main(String[] args) {
        leaks();
        statements();
        raised();
        stop();
        stopByLimits();
        tooMuch();
        Check.end("FlowTest");
    }

    private static void flows(String levels, String text, int many, int first) {
        WatchedPrograms x = Check.with(levels, text);
        Check.due("leaks of " + text + " at " + levels, x.flows(0), many);
        Check.due("first leak of " + text + " at " + levels, x.flows(1), first);
    }

    private static void leaks() {
        flows("", "", 0, NONE);
        flows("100000", "b=a;", 1, 0);
        flows("110000", "b=a;", 0, NONE);
        flows("120000", "b=a;", 1, 0);
        flows("130000", "b=a;", 0, NONE);
        flows("310000", "b=a;", 1, 0);
        flows("120000", "c=a+b;out 1 a;out 2 a;out 3 a*b;", 2, 0);
        flows("100000", "if a{b=1;}", 1, 1);
        flows("100000", "if a{out 0 1;out 1 1;out 2 1;}else{a=1;}", 2, 1);
        flows("100000", "loop 3{b=1;if a{loop 2{b=1;}}}b=1;", 1, 4);
        flows("120000", "if a{if b{c=1;d=a;}}", 2, 2);
        flows("123000", "if a{if b{c=1;}b=1;}", 1, 3);
        flows("100000", "b=(a<a);b=a-a;b=!a;b=a*0;", 4, 0);
        WatchedPrograms x = new WatchedPrograms();
        Check.due("flows -1", x.flows(-1), BAD);
        Check.due("flows 2", x.flows(2), BAD);
        Check.due("flows of the least", x.flows(Integer.MIN_VALUE), BAD);
    }

    private static void statements() {
        WatchedPrograms x = Check.with("123000", "if a{loop 2{if b{out 3 c;d=e;}}}else{out 1 a;}f=c;");
        int[][] want = {
            {0, 1, 0, 2}, {1, 0, 0, 3}, {1, 2, 0, 2}, {3, 3, 0, 1}, {3, 0, 1, 0}, {1, 1, 0, 1}, {0, 3, 1, 0}};
        for (int i = 0; i < want.length; i++) {
            for (int what = 0; what < 4; what++) {
                Check.due("statement " + i + ", " + what, x.statement(i, what), want[i][what]);
            }
        }
        int[][] wrong = {{-1, 0}, {7, 0}, {0, -1}, {0, 4}, {Integer.MAX_VALUE, 0}, {0, Integer.MIN_VALUE}};
        for (int[] w : wrong) Check.due("statement " + w[0] + ", " + w[1], x.statement(w[0], w[1]), BAD);
        x.level(1, 0);
        Check.due("held by levels of now", x.statement(4, 0), 1);
    }

    private static void raised(String levels, String text, String want) {
        WatchedPrograms x = Check.with(levels, text);
        for (int c = 0; c < 6; c++) {
            Check.due("raised " + c + " of " + text, x.raised(c), want.charAt(c) - '0');
        }
        for (int c = 0; c < 6; c++) Check.due("raised changes no level", x.level(c, 0), levels.charAt(c) - '0');
    }

    private static void raised() {
        raised("000000", "", "000000");
        raised("123012", "", "123012");
        raised("100000", "b=a;", "110000");
        raised("120000", "b=a;", "130000");
        raised("120000", "c=a;c=b;", "123000");
        raised("100000", "if a{b=1;}if b{c=1;}", "111000");
        // against the order of the statements
        raised("000002", "a=b;b=c;c=d;d=e;e=f;", "222222");
        raised("100002", "if b{c=1;}if c{d=f;}b=a;", "111302");
        raised("300000", "out 0 a;out 0 b;", "300000");
        raised("030000", "out 0 b;if b{out 1 1;}", "030000");
        raised("010000", "loop 3{if b{loop 2{a=1;}}}", "110000");
        WatchedPrograms x = new WatchedPrograms();
        Check.due("raised -1", x.raised(-1), BAD);
        Check.due("raised 6", x.raised(6), BAD);
        Check.due("raised of the least", x.raised(Integer.MIN_VALUE), BAD);
    }

    private static void stop(String levels, String text, int w, int time, int many, int set) {
        WatchedPrograms x = Check.with(levels, text);
        Check.due("stop of " + text + " for " + w, x.stop(w, time, 0), many);
        Check.due("set of " + text + " for " + w, x.stop(w, time, 1), set);
    }

    private static void stop() {
        stop("300000", "", 0, 0, 0, 0);
        stop("300000", "out 0 b;", 0, 1, 0, 0);
        stop("300000", "out 0 a;", 0, 0, 1, 1);
        stop("300000", "out 0 b;out 0 a;out 1 a;out 0 a;", 0, 0, 2, 10);
        stop("300000", "out 0 b;out 0 a;out 1 a;out 0 a;", 1, 0, 3, 14);
        stop("300000", "b=a;out 0 a;", 0, 0, NONE, NONE);
        stop("300000", "b=a;out 0 a;", 3, 0, 0, 0);
        // of two that tell only as a pair, the least set
        stop("300000", "if a{out 0 1;}out 0 1;", 0, 0, 1, 1);
        stop("300000", "if a{out 0 1;}else{out 0 2;}", 0, 0, 2, 3);
        // with time told the steps of what is left
        stop("300000", "if a{out 3 1;}", 0, 0, 0, 0);
        stop("300000", "if a{out 3 1;}", 0, 1, 1, 1);
        stop("300000", "if a{out 3 1;}else{b=b;}", 0, 1, 0, 0);
        stop("300000", "if a{out 0 1;}else{b=b;}", 0, 1, NONE, NONE);
        stop("300000", Check.repeat("out 0 a;", 8), 0, 0, 8, 255);
        WatchedPrograms x = Check.with("300000", Check.repeat("out 0 b;", 9));
        Check.due("nine outs", x.stop(0, 0, 0), WatchedPrograms.STATE);
        Check.due("nine outs: set", x.stop(0, 1, 1), WatchedPrograms.STATE);
        int[][] wrong = {{-1, 0, 0}, {4, 0, 0}, {0, -1, 0}, {0, 2, 0}, {0, 0, -1}, {0, 0, 2}};
        for (int[] v : wrong) Check.due("BAD ahead of STATE", x.stop(v[0], v[1], v[2]), BAD);
    }

    /** A stopped out leaves its steps, and its place on the tape, to others. */
    private static void stopByLimits() {
        stop("300000", "loop 8{loop 8{loop 8{out 3 1;}}}out 0 a;", 0, 0, 0, 0);
        stop("300000", "loop 4{loop 5{out 3 b;}}out 0 a;", 0, 0, 0, 0);
        stop("300000", "loop 3{loop 5{out 3 b;}}out 0 a;", 0, 0, 1, 2);
        // safe as it is, but not with all outs stopped
        stop("300000", "loop 8{loop 8{loop 6{out 0 1;}}}b=a;", 0, 1, 0, 0);
        // safe neither as it is nor with all stopped
        stop("300000", "out 0 a;loop 8{loop 8{loop 6{out 0 1;}}}b=a;", 0, 0, 1, 1);
        // the same, but the loops leave steps for b = a
        stop("300000", "out 0 a;loop 8{loop 8{loop 5{out 0 1;}}}b=a;", 0, 0, NONE, NONE);
    }

    private static void tooMuch(String levels, String text, int want) {
        Check.due("tooMuch of " + text + " at " + levels, Check.with(levels, text).tooMuch(), want);
    }

    private static void tooMuch() {
        tooMuch("300000", "b=a;", 0);
        tooMuch("300000", "b=a-a;", 1);
        tooMuch("300000", "b=b;", 0);
        tooMuch("300000", "out 0 a*0;", 1);
        tooMuch("300000", "out 3 a;", 0);
        tooMuch("300000", "b=a;b=0;", 1);
        tooMuch("300000", "b=a;b=0;out 1 a;", 0);
        tooMuch("300000", "b=a;b=0;out 2 a;", 0);
        tooMuch("300000", "b=a;b=0;out 3 a;", 1);
        tooMuch("120000", "b=a;b=0;", 1);
        tooMuch("120000", "b=a;", 0);
        // without time
        tooMuch("300000", "if a{b=0;}else{b=0;b=0;}", 1);
    }
}
