/** Boundary cases of part 3 of the document, rules of flow: each method has its sentence above it. */
public final class FlowEdgesTest {
    private static final int BAD = WatchedPrograms.BAD, STATE = WatchedPrograms.STATE, NONE = WatchedPrograms.NONE;
    /** "A LEVEL is WITHIN another one, if its bits are." */
    private static final boolean[][] WITHIN = {
        {true, true, true, true}, {false, true, false, true}, {false, false, true, true}, {false, false, false, true}};

    public static void main(String[] args) {
        levelOfSum();
        heldUnderIf();
        heldUnderLoop();
        leaksUnlessWithin();
        howManyLeak();
        statementNumbers();
        raisedAtLeastThoseTold();
        raisedThroughAll();
        eightOuts();
        fewestThenLeast();
        stoppedAsIfNotThere();
        notSafeWithoutAny();
        tooMuchForEachWatcher();
        counts();
        Check.end("FlowEdgesTest");
    }

    /** "LEVEL of a SUM: of all its CELLS together (all bits)", "(1; 0 of a loop)" */
    private static void levelOfSum() {
        String[] sums = {"3", "1+2*3&!0", "a", "b", "c", "d", "a+b", "b-c", "a*b", "!b", "!!!!!!!!c", "(b<c)", "(b=b)",
            "(a)", "b+b", "((((((((b))))))))", "(1<(2=(3<c)))"};
        int[] want = {0, 0, 0, 1, 2, 3, 1, 3, 1, 1, 2, 3, 1, 0, 1, 1, 2};
        for (int k = 0; k < sums.length; k++) {
            String sum = sums[k];
            WatchedPrograms x = Check.with("012300", "a=" + sum + ";out 0 " + sum + ";if " + sum + "{}loop 8{}");
            for (int i = 0; i < 3; i++) Check.due("level of " + sum + " in " + i, x.statement(i, 1), want[k]);
            Check.due("level of a loop", x.statement(3, 1), 0);
        }
    }

    /** "Under an if each STATEMENT is HELD to the LEVEL of its SUM, too (and what that is held to)" */
    private static void heldUnderIf() {
        WatchedPrograms x = Check.with("012300", "if b{d=1;}else{d=1;}d=1;");
        int[] held = {0, 1, 1, 0};
        for (int i = 0; i < held.length; i++) Check.due("held " + i, x.statement(i, 0), held[i]);
        x = Check.with("012300", "if 1{if a{if b{if b{if c{if d{e=1;}}}}}}");
        int[] deep = {0, 0, 0, 1, 1, 3, 3};
        for (int i = 0; i < deep.length; i++) Check.due("held six deep " + i, x.statement(i, 0), deep[i]);
        x = Check.with("012300", "if b{if c{e=1;}e=1;}else{if d{}out 0 1;}if c{e=1;}");
        int[] tree = {0, 1, 3, 1, 1, 1, 0, 2};
        for (int i = 0; i < tree.length; i++) Check.due("held in a tree " + i, x.statement(i, 0), tree[i]);
    }

    /** "what stands under a loop to what that is held to" */
    private static void heldUnderLoop() {
        WatchedPrograms x = Check.with("012300", "loop 8{d=1;if b{loop 0{loop 1{d=1;}}}d=1;}d=1;");
        int[] held = {0, 0, 0, 1, 1, 1, 0, 0};
        for (int i = 0; i < held.length; i++) Check.due("held " + i, x.statement(i, 0), held[i]);
    }

    /** "A STATEMENT LEAKS, if the LEVEL of its SUM and what it is held to are not within that of its CELL, or of its out." */
    private static void leaksUnlessWithin() {
        for (int from = 0; from < 4; from++) {
            for (int to = 0; to < 4; to++) {
                int leak = WITHIN[from][to] ? 0 : 1;
                String levels = from + "" + to + "0000";
                String told = " from " + from + " to " + to;
                WatchedPrograms x = Check.with(levels, "b=a;out " + to + " a;if a{b=1;out " + to + " 1;}");
                Check.due("a cell" + told, x.statement(0, 2), leak);
                Check.due("an out" + told, x.statement(1, 2), leak);
                Check.due("an if never leaks", x.statement(2, 2), 0);
                Check.due("a cell held" + told, x.statement(3, 2), leak);
                Check.due("an out held" + told, x.statement(4, 2), leak);
                Check.due("how many" + told, x.flows(0), 4 * leak);
            }
        }
        WatchedPrograms x = Check.with("123000", "if a{out 1 b;out 2 b;out 3 b;loop 3{if b{}}c=b;}");
        int[] leaks = {0, 1, 1, 0, 0, 0, 0};
        for (int i = 0; i < leaks.length; i++) Check.due("sum and held together " + i, x.statement(i, 2), leaks[i]);
    }

    /** "FLOWS: how many LEAK; which is the first.", "(1; NONE). BAD." */
    private static void howManyLeak() {
        WatchedPrograms x = Check.with("300000", "");
        Check.due("none in an empty one", x.flows(0), 0);
        Check.due("none is the first", x.flows(1), NONE);
        x = Check.with("300000", Check.repeat("b=a;", 30));
        Check.due("all 30", x.flows(0), 30);
        Check.due("the first is 0", x.flows(1), 0);
        x = Check.with("300000", Check.repeat("a=a;", 29) + "b=a;");
        Check.due("the last alone", x.flows(0), 1);
        Check.due("is 29", x.flows(1), 29);
        x = Check.with("300000", Check.repeat("a=a;", 30));
        Check.due("none of 30", x.flows(0), 0);
        Check.due("none of 30 is the first", x.flows(1), NONE);
        Check.due("nor is anything raised", x.raised(1), 0);
        Check.due("what -1", x.flows(-1), BAD);
        Check.due("what 2", x.flows(2), BAD);
    }

    /** "(2), what it is (3: 0 CELL =, 1 out, 2 if, 3 loop). BAD." */
    private static void statementNumbers() {
        WatchedPrograms x = Check.with("", "");
        for (int what = -1; what <= 4; what++) Check.due("statement 0 of none", x.statement(0, what), BAD);
        x = Check.with("", "a=1;out 0 1;if 1{}loop 1{}");
        for (int i = 0; i < 4; i++) {
            Check.due("what 3 of " + i, x.statement(i, 3), i);
            Check.due("what 4 of " + i, x.statement(i, 4), BAD);
            Check.due("what -1 of " + i, x.statement(i, -1), BAD);
        }
        for (int what = 0; what < 4; what++) {
            Check.due("statement 4 of four", x.statement(4, what), BAD);
            Check.due("statement -1", x.statement(-1, what), BAD);
        }
    }

    private static void raised(String levels, String text, String want) {
        WatchedPrograms x = Check.with(levels, text);
        for (int c = 0; c < 6; c++) Check.due("raised " + c + " of " + text, x.raised(c), want.charAt(c) - '0');
        Check.due("raised -1", x.raised(-1), BAD);
        Check.due("raised 6", x.raised(6), BAD);
        for (int c = 0; c < 6; c++) Check.due("level stays", x.level(c, 0), levels.charAt(c) - '0');
    }

    /** "the least LEVELS, at least those told, with which no CELL = LEAKS (outs may)" */
    private static void raisedAtLeastThoseTold() {
        raised("012301", "", "012301");
        raised("300000", "a=b;a=0;", "300000");
        for (int from = 0; from < 4; from++) {
            for (int to = 0; to < 4; to++) {
                raised(from + "" + to + "0000", "b=a;", from + "" + (from | to) + "0000");
                raised(from + "" + to + "0000", "if a{b=1;}else{c=b;}", from + "" + (from | to) + (from | to) + "000");
            }
        }
        raised("300000", "out 0 a;if a{out 0 b;}", "300000");
        raised("000003", "out 0 f;out 1 f;out 2 f;if f{out 0 1;out 1 1;out 2 1;}", "000003");
        raised("300000", Check.repeat("c=1;", 29) + "b=a;", "330000");
    }

    /** The same, where each is raised by the one behind it. */
    private static void raisedThroughAll() {
        raised("000003", "a=b;b=c;c=d;d=e;e=f;", "333333");
        raised("300000", "b=a;c=b;d=c;e=d;f=e;", "333333");
        raised("100002", "a=b;b=c;c=d;d=e;e=f;f=a;", "333333");
        raised("000001", "if b{a=1;}if c{b=1;}if d{c=1;}if e{d=1;}if f{e=1;}", "111111");
        raised("000012", "loop 8{a=b;b=c;if e{loop 1{c=f;}}}", "333012");
    }

    private static void stop(String levels, String text, int w, int time, int many, int set) {
        WatchedPrograms x = Check.with(levels, text);
        Check.due("stop of " + text + " for " + w, x.stop(w, time, 0), many);
        Check.due("set of " + text + " for " + w, x.stop(w, time, 1), set);
    }

    /** "8 outs at most, else STATE" */
    private static void eightOuts() {
        for (int outs = 0; outs <= 8; outs++) stop("300000", Check.repeat("out 0 a;", outs), 0, 0, outs, (1 << outs) - 1);
        for (int outs = 9; outs <= 30; outs++) stop("300000", Check.repeat("out 0 a;", outs), 0, 0, STATE, STATE);
        // nine are too many even where nothing is to be stopped, or none is ever done
        stop("000000", Check.repeat("out 3 1;", 9), 3, 1, STATE, STATE);
        stop("300000", "if 0{" + Check.repeat("out 0 a;", 9) + "}", 0, 0, STATE, STATE);
        stop("300000", "if 0{" + Check.repeat("out 0 a;", 8) + "}", 0, 0, 0, 0);
        // an out in a loop is one
        stop("300000", "loop 8{loop 8{out 0 a;}}", 0, 0, 1, 1);
        WatchedPrograms x = Check.with("300000", Check.repeat("out 0 a;", 9));
        for (int bad = -1; bad <= 4; bad += 5) {
            Check.due("BAD watcher ahead of STATE", x.stop(bad, 0, 0), BAD);
            Check.due("BAD time ahead of STATE", x.stop(0, bad, 0), BAD);
            Check.due("BAD what ahead of STATE", x.stop(0, 0, bad), BAD);
        }
        Check.due("the others don't mind nine outs", x.heaps(0, 0, 0, 0), 4);
        Check.due("nor does safe", x.safe(0, 0), 0);
        Check.read(x, Check.repeat("out 0 a;", 8));
        Check.due("with eight it answers", x.stop(0, 0, 1), 255);
        // by the levels of now
        x = Check.with("300000", "out 0 a;out 0 b;");
        Check.due("a is secret", x.stop(0, 0, 1), 1);
        x.level(0, 0);
        Check.due("nothing is secret", x.stop(0, 0, 1), 0);
        x.level(1, 3);
        Check.due("b is secret", x.stop(0, 0, 1), 2);
        Check.due("not to 3", x.stop(3, 0, 1), 0);
    }

    /** "the fewest outs .. of several the least set (bit 0: the first out" */
    private static void fewestThenLeast() {
        stop("300000", "out 0 a;out 0 b;", 0, 0, 1, 1);
        stop("300000", "out 0 b;out 0 a;", 0, 0, 1, 2);
        stop("300000", Check.repeat("out 0 b;", 7) + "out 0 a;", 0, 0, 1, 128);
        // 1, 2 or 4 alone would do: all that differs is how many come out
        stop("300000", "if a{out 0 1;}else{out 0 1;out 0 1;}", 0, 0, 1, 2);
        stop("300000", "if a{out 0 1;out 0 1;}else{out 0 1;}", 0, 0, 1, 1);
        // the third alone is fewer than the first two, though its set is greater
        stop("300000", "out 0 0;out 0 0;if a{out 0 0;}", 0, 0, 1, 4);
        // two of three: 3 ahead of 5 and 6
        stop("300000", "if a{out 0 1;out 0 1;out 0 1;}else{out 0 1;}", 0, 0, 2, 3);
        stop("300000", "if a{out 0 1;}else{out 0 1;out 0 1;out 0 1;}", 0, 0, 2, 6);
        stop("300000", "if a{out 0 1;out 0 2;}else{out 0 2;out 0 1;}", 0, 0, 2, 6);
        stop("300000", "out 3 a;out 1 a;out 2 a;out 0 a;", 0, 0, 1, 8);
        stop("300000", "out 3 a;out 1 a;out 2 a;out 0 a;", 1, 0, 2, 10);
        stop("300000", "out 3 a;out 1 a;out 2 a;out 0 a;", 2, 0, 2, 12);
        stop("300000", "out 3 a;out 1 a;out 2 a;out 0 a;", 3, 0, 0, 0);
    }

    /** "(these are passed by as if they were not there, their STEPS too)" */
    private static void stoppedAsIfNotThere() {
        stop("300000", "if a{out 3 1;}", 0, 1, 1, 1);
        stop("300000", "if a{out 3 1;}", 0, 0, 0, 0);
        stop("300000", "if a{out 3 1;b=b;}else{b=b;}", 0, 1, 1, 1);
        stop("300000", "if a{out 0 1;b=b;}else{b=b;b=b;}", 0, 1, NONE, NONE);
        stop("300000", "if a{loop 8{out 3 1;}}else{b=b;}", 0, 1, 1, 1);
        // the steps and the places on the tape that it leaves go to others
        String ahead = "loop 8{loop 8{out 0 1;out 0 1;out 0 1;out 0 1;out 0 1;}}loop 7{loop 8{out 0 1;}}";
        stop("300000", ahead + "out 0 a;", 0, 0, 0, 0);
        stop("300000", ahead + "out 3 0;b=a;", 0, 0, NONE, NONE);
        stop("300000", "if a{out 3 1;}loop 4{loop 5{out 0 1;}}", 0, 0, 1, 1);
        stop("300000", "if a{out 3 1;}loop 3{loop 6{out 0 1;}}out 0 1;", 0, 0, 0, 0);
    }

    /** "NONE: it is not SAFE without any." */
    private static void notSafeWithoutAny() {
        stop("300000", "b=a;", 0, 0, NONE, NONE);
        stop("300000", "b=a;" + Check.repeat("out 0 b;", 8), 0, 0, NONE, NONE);
        stop("300000", "b=a;" + Check.repeat("out 0 b;", 8), 3, 0, 0, 0);
        stop("310000", "b=a;out 0 a;", 2, 0, 1, 1);
        stop("310000", "b=a;out 0 a;", 1, 0, NONE, NONE);
        stop("300000", "if a{b=b;}out 0 a;", 0, 0, 1, 1);
        stop("300000", "if a{b=b;}out 0 a;", 0, 1, NONE, NONE);
        // by the last open number alone it is not safe
        stop("000003", "if (a=3)*(b=3)*(c=3)*(d=3)*(e=3){out 0 f;a=f;}", 0, 0, NONE, NONE);
        stop("000003", "if (a=3)*(b=3)*(c=3)*(d=3)*(e=3){out 0 f;}", 0, 0, 1, 1);
    }

    /** "whether by RULES some STATEMENT LEAKS, though it is SAFE for all WATCHERS 0, 1, 2 (without TIME)" */
    private static void tooMuchForEachWatcher() {
        String leak = "b=a;b=0;";
        Check.due("safe for all, but it leaks", Check.with("300000", leak).tooMuch(), 1);
        Check.due("nothing leaks", Check.with("300000", "b=b;out 3 a;").tooMuch(), 0);
        Check.due("nothing leaks in nothing", Check.with("300000", "").tooMuch(), 0);
        for (int level = 0; level < 4; level++) {
            Check.due("an out of " + level, Check.with("300000", leak + "out " + level + " a;").tooMuch(), level == 3 ? 1 : 0);
            Check.due("an out of level " + level + " of no secret", Check.with("300000", leak + "out " + level + " b;").tooMuch(), 1);
        }
        Check.due("a cell of 1", Check.with("301000", leak + "c=a;").tooMuch(), 0);
        Check.due("a cell of 2", Check.with("302000", leak + "c=a;").tooMuch(), 0);
        Check.due("a cell of 3", Check.with("303000", leak + "c=a;").tooMuch(), 1);
        Check.due("time alone tells", Check.with("300000", "if a{b=b;}").tooMuch(), 1);
        Check.due("an out that leaks", Check.with("300000", "out 0 a*0;").tooMuch(), 1);
    }

    /** "0 STATEMENTS, 1 outs, 2 bytes of THE TEXT, 3 .. 6 CELLS of LEVEL 0 .. 3. BAD." */
    private static void counts() {
        for (int level = 0; level < 4; level++) {
            WatchedPrograms x = Check.with(Check.repeat("" + level, 6), Check.repeat("out 0 a;", 30));
            for (int k = 0; k < 4; k++) Check.due("cells of " + k, x.count(3 + k), k == level ? 6 : 0);
            Check.due("30 statements", x.count(0), 30);
            Check.due("30 outs", x.count(1), 30);
            Check.due("no bytes", x.count(2), 0);
            Check.type(x, Check.repeat("a", 300));
            Check.due("300 bytes", x.count(2), 300);
            Check.due("-1", x.count(-1), BAD);
            Check.due("7", x.count(7), BAD);
        }
    }
}
