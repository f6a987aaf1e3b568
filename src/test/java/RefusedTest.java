import java.util.ArrayList;
import java.util.List;
import java.util.function.ToIntFunction;

/**
 * "Refused, and nothing changes, the first of these: BAD (a number is not as told, or there is no such thing), STATE (as
 * told), FULL." Each refused call is made on an object; what that object then answers to all questions must be what
 * another object answers that was not called.
 */
public final class RefusedTest {
    private static final int BAD = WatchedPrograms.BAD, STATE = WatchedPrograms.STATE, FULL = WatchedPrograms.FULL;
    private static final int[] FAR = {Integer.MIN_VALUE, Integer.MIN_VALUE + 1, -65536, -256, -2, 256 * 256, 1 << 30,
        Integer.MAX_VALUE - 1, Integer.MAX_VALUE};

    /** A state to begin with: levels, the program, numbers to run from (or -1) and what is typed then. */
    private static final class State {
        final String levels;
        final String program;
        final int run;
        final String typed;

        State(String levels, String program, int run, String typed) {
            this.levels = levels;
            this.program = program;
            this.run = run;
            this.typed = typed;
        }

        WatchedPrograms make() {
            WatchedPrograms x = Check.with(levels, program);
            if (run >= 0) x.run(run);
            Check.type(x, typed);
            return x;
        }
    }

    private static final State NEW = new State("", "", -1, "");
    private static final State USUAL = new State("301200", "if (a<e){out 0 c;b=1;}else{out 2 a;}loop 3{out 1 e+b;}", 0x39b, "f=a+1;");
    private static final State FULL_TEXT = new State("300000", "out 0 a;", 2, Check.repeat(" ", 296) + "a=1;");
    private static final State FAULTY_TEXT = new State("310000", "b=a;out 1 a;", 3, "a=1;b=;");
    private static final State NINE_OUTS = new State("300000", Check.repeat("out 0 a;", 9), 1, "b=");
    private static final State[] ALL = {NEW, USUAL, FULL_TEXT, FAULTY_TEXT, NINE_OUTS};

    public static void main(String[] args) {
        numbersNotAsTold();
        noSuchThing();
        openAndSecretBeyond();
        twoReasons();
        fullAndState();
        faults();
        questionsChangeNothing();
        Check.end("RefusedTest");
    }

    private static void refused(String call, State state, ToIntFunction<WatchedPrograms> made, int want) {
        WatchedPrograms x = state.make();
        Check.due(call, made.applyAsInt(x), want);
        sameAsUncalled(call, state, x);
    }

    private static void sameAsUncalled(String call, State state, WatchedPrograms x) {
        String then = answers(x);
        String want = answers(state.make());
        if (!then.equals(want)) System.out.println("due is " + want + "\nbut is " + then);
        Check.due(call + " changes nothing", then.equals(want) ? 1 : 0, 1);
    }

    /** What can be asked of the object, in under 400 calls; the last ones are made to show levels, text and program. */
    private static String answers(WatchedPrograms x) {
        List<Integer> all = new ArrayList<>();
        for (int what = 0; what <= 6; what++) all.add(x.count(what));
        for (int what = 0; what <= 2; what++) all.add(x.ran(what));
        for (int i = 0; i < 10; i++) {
            for (int what = 0; what < 2; what++) all.add(x.tape(i, what));
        }
        for (int i = 0; i < x.count(0); i++) {
            for (int what = 0; what < 4; what++) all.add(x.statement(i, what));
        }
        for (int what = 0; what < 2; what++) all.add(x.flows(what));
        for (int w = 0; w < 4; w++) askOf(x, w, all);
        for (int cell = 0; cell < 6; cell++) all.add(x.raised(cell));
        all.add(x.both(1, 1));
        all.add(x.tooMuch());
        for (int numbers = 0; numbers < 4096; numbers += 511) {
            all.add(x.run(numbers));
            all.add(x.ran(0));
        }
        all.add(x.read());
        for (int numbers = 0; numbers < 4096; numbers += 511) all.add(x.run(numbers));
        all.add(x.clear());
        for (int cell = 0; cell < 6; cell++) all.add(x.level(cell, 0));
        return all.toString();
    }

    private static void askOf(WatchedPrograms x, int w, List<Integer> all) {
        for (int time = 0; time < 2; time++) {
            for (int what = 0; what < 2; what++) {
                all.add(x.heaps(w, time, 3, what));
                all.add(x.heap(w, time, 0, 1, what));
                all.add(x.pair(w, time, what));
                all.add(x.most(w, time, what));
                all.add(x.stop(w, time, what));
            }
            all.add(x.safe(w, time));
            all.add(x.together(w, time, 1, 3));
        }
    }

    /** Just beyond at both ends, and far beyond. */
    private static List<Integer> beyond(int least, int greatest) {
        List<Integer> list = new ArrayList<>(List.of(least - 1, greatest + 1));
        for (int v : FAR) list.add(v);
        return list;
    }

    /** "a number is not as told" */
    private static void numbersNotAsTold() {
        for (State s : ALL) {
            for (int v : beyond(0, 5)) refused("level of cell " + v, s, x -> x.level(v, 1), BAD);
            for (int v : beyond(0, 3)) refused("level " + v, s, x -> x.level(1, v), BAD);
            for (int v : beyond(1, 8)) refused("type of " + v, s, x -> x.type('a', v), BAD);
            for (int v : beyond(0, 4095)) refused("run from " + v, s, x -> x.run(v), BAD);
            for (int v : beyond(0, 2)) refused("ran " + v, s, x -> x.ran(v), BAD);
            for (int v : beyond(0, 1)) refused("tape what " + v, s, x -> x.tape(0, v), BAD);
            for (int v : beyond(0, 1)) refused("flows " + v, s, x -> x.flows(v), BAD);
            for (int v : beyond(0, 3)) refused("statement what " + v, s, x -> x.statement(0, v), BAD);
            for (int v : beyond(0, 5)) refused("raised " + v, s, x -> x.raised(v), BAD);
            for (int v : beyond(0, 6)) refused("count " + v, s, x -> x.count(v), BAD);
            for (int v : beyond(0, 3)) watcherNotAsTold(s, v);
            for (int v : beyond(0, 1)) timeOrWhatNotAsTold(s, v);
        }
    }

    private static void watcherNotAsTold(State s, int v) {
        refused("heaps of " + v, s, x -> x.heaps(v, 0, 0, 0), BAD);
        refused("heap of " + v, s, x -> x.heap(v, 0, 0, 0, 0), BAD);
        refused("safe of " + v, s, x -> x.safe(v, 0), BAD);
        refused("pair of " + v, s, x -> x.pair(v, 0, 0), BAD);
        refused("most of " + v, s, x -> x.most(v, 0, 0), BAD);
        refused("together of " + v, s, x -> x.together(v, 0, 0, 0), BAD);
        refused("stop of " + v, s, x -> x.stop(v, 0, 0), BAD);
    }

    private static void timeOrWhatNotAsTold(State s, int v) {
        for (int w = 0; w < 4; w += 3) {
            int watcher = w;
            refused("heaps, time " + v, s, x -> x.heaps(watcher, v, 0, 0), BAD);
            refused("heaps, what " + v, s, x -> x.heaps(watcher, 0, 0, v), BAD);
            refused("heap, time " + v, s, x -> x.heap(watcher, v, 0, 0, 0), BAD);
            refused("heap, what " + v, s, x -> x.heap(watcher, 0, 0, 0, v), BAD);
            refused("safe, time " + v, s, x -> x.safe(watcher, v), BAD);
            refused("pair, time " + v, s, x -> x.pair(watcher, v, 0), BAD);
            refused("pair, what " + v, s, x -> x.pair(watcher, 0, v), BAD);
            refused("most, time " + v, s, x -> x.most(watcher, v, 0), BAD);
            refused("most, what " + v, s, x -> x.most(watcher, 0, v), BAD);
            refused("together, time " + v, s, x -> x.together(watcher, v, 0, 0), BAD);
            refused("stop, time " + v, s, x -> x.stop(watcher, v, 0), BAD);
            refused("stop, what " + v, s, x -> x.stop(watcher, 0, v), BAD);
        }
        refused("both, time " + v, s, x -> x.both(v, 0), BAD);
    }

    /** "or there is no such thing" */
    private static void noSuchThing() {
        for (State s : ALL) {
            int statements = s.make().count(0);
            int kept = s.make().ran(2);
            for (int v : beyond(0, statements - 1)) {
                for (int k = 0; k < 4; k++) {
                    int what = k;
                    refused("statement " + v, s, x -> x.statement(v, what), BAD);
                }
            }
            for (int v : beyond(0, kept - 1)) {
                refused("tape " + v, s, x -> x.tape(v, 0), BAD);
                refused("level on tape " + v, s, x -> x.tape(v, 1), BAD);
            }
        }
    }

    /** "OPEN numbers beyond, too", "numbers beyond, too" */
    private static void openAndSecretBeyond() {
        for (State s : ALL) {
            for (int watcher = 0; watcher < 4; watcher++) {
                int w = watcher;
                int open = 0;
                for (int level = 0; level < 4; level++) {
                    if ((level | w) == w) open += s.make().count(3 + level);
                }
                for (int v : beyond(0, (1 << 2 * open) - 1)) {
                    refused("heaps by open " + v, s, x -> x.heaps(w, 1, v, 0), BAD);
                    refused("heap by open " + v, s, x -> x.heap(w, 1, v, 0, 0), BAD);
                    refused("together by open " + v, s, x -> x.together(w, 1, v, 0), BAD);
                    refused("together by other " + v, s, x -> x.together(w, 1, 0, v), BAD);
                    if (w == 0) refused("both by " + v, s, x -> x.both(1, v), BAD);
                }
                for (int v : beyond(0, (4096 >> 2 * open) - 1)) {
                    refused("heap of secret " + v, s, x -> x.heap(w, 1, 0, v, 1), BAD);
                }
            }
        }
    }

    /** "the first of these: BAD .., STATE .., FULL" */
    private static void twoReasons() {
        for (int v : beyond(1, 8)) refused("type of " + v + " to a full text", FULL_TEXT, x -> x.type('a', v), BAD);
        for (int v : beyond(0, 3)) refused("stop of " + v + " with nine outs", NINE_OUTS, x -> x.stop(v, 1, 1), BAD);
        for (int v : beyond(0, 1)) {
            refused("stop, time " + v + ", with nine outs", NINE_OUTS, x -> x.stop(0, v, 1), BAD);
            refused("stop, what " + v + ", with nine outs", NINE_OUTS, x -> x.stop(0, 1, v), BAD);
        }
    }

    private static void fullAndState() {
        for (int n = 1; n <= 8; n++) {
            int many = n;
            refused("type of " + n + " to a full text", FULL_TEXT, x -> x.type('a', many), FULL);
            for (int left = 0; left < n; left++) {
                State nearly = new State("", "a=1;", 5, Check.repeat(" ", 296 - left) + "a=2;");
                refused("type of " + n + " where there is room for " + left, nearly, x -> x.type('a', many), FULL);
            }
        }
        for (int w = 0; w < 4; w++) {
            int watcher = w;
            refused("stop of " + w + " with nine outs", NINE_OUTS, x -> x.stop(watcher, 0, 0), STATE);
            refused("set of " + w + " with nine outs", NINE_OUTS, x -> x.stop(watcher, 1, 1), STATE);
        }
    }

    /** "-10 less FAULT: nothing changes." */
    private static void faults() {
        refused("a fault", FAULTY_TEXT, WatchedPrograms::read, -16);
        refused("a text that ends too early", NINE_OUTS, WatchedPrograms::read, -12);
        String[] texts = {"a", "?", "if a{", "out 4 a;", "a=" + Check.repeat("!", 9) + "b;", Check.repeat("f=1;", 31),
            Check.repeat("loop 1{", 7), "b=1" + Check.repeat("+1", 24) + ";", "out 0 1;out 0 00;", Check.repeat("a", 300)};
        int[] places = {1, 0, 5, 4, 10, 120, 48, 50, 14, 0};
        for (int k = 0; k < texts.length; k++) {
            State s = new State("310200", "if a{out 0 1;}else{b=2;}", 7, texts[k]);
            refused("read of " + texts[k], s, WatchedPrograms::read, -10 - places[k]);
        }
    }

    /** A call that asks leaves all as it was, the latest run, too. */
    private static void questionsChangeNothing() {
        for (State s : ALL) {
            WatchedPrograms x = s.make();
            List<Integer> all = new ArrayList<>();
            for (int w = 0; w < 4; w++) askOf(x, w, all);
            x.both(0, 0);
            x.tooMuch();
            for (int cell = 0; cell < 6; cell++) x.raised(cell);
            sameAsUncalled("asking", s, x);
        }
    }
}
