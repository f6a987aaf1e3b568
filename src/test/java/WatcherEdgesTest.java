/** Boundary cases of part 2 of the document, what is learnt: each method has its sentence above it. */
public final class WatcherEdgesTest {
    private static final int BAD = WatchedPrograms.BAD, NONE = WatchedPrograms.NONE;
    /** "WATCHER 1 sees what is of 0 and 1, WATCHER 2 what is of 0 and 2, WATCHER 0 what is of 0, WATCHER 3 all." */
    private static final boolean[][] SEES = {
        {true, false, false, false}, {true, true, false, false}, {true, false, true, false}, {true, true, true, true}};

    public static void main(String[] args) {
        cellsSeen();
        cellsSeenBehind();
        outsSeen();
        openNumbersBeyond();
        secretsBeyond();
        lowestBitsAreTheFirstCell();
        watchersAndTime();
        noSecrets();
        fewestAndMostHeaps();
        timeIsStepsAlone();
        tapeOfTwenty();
        tapeInOrder();
        safeByAllOpenNumbers();
        firstPair();
        leastOpenThatTellsMost();
        together();
        both();
        Check.end("WatcherEdgesTest");
    }

    private static int power(int cells) {
        return 1 << 2 * cells;
    }

    /** "numbers of CELLS within its LEVEL ahead of it": those are told, not secret. */
    private static void cellsSeen() {
        for (int level = 0; level < 4; level++) {
            for (int w = 0; w < 4; w++) {
                WatchedPrograms x = Check.with(level + "33333", "");
                int open = power(w == 3 ? 6 : SEES[w][level] ? 1 : 0);
                String who = "cell of " + level + " for " + w;
                Check.due(who + ": the last open number", x.heaps(w, 0, open - 1, 0), 1);
                Check.due(who + ": beyond", x.heaps(w, 0, open, 0), BAD);
                Check.due(who + ": secrets", x.heaps(w, 0, 0, 1), 4096 / open);
            }
        }
    }

    /** "and behind it" */
    private static void cellsSeenBehind() {
        for (int level = 0; level < 4; level++) {
            for (int w = 0; w < 3; w++) {
                WatchedPrograms x = Check.with("3" + level + "0000", "b=a;");
                Check.due("b of " + level + " for " + w, x.heaps(w, 0, 0, 0), SEES[w][level] ? 4 : 1);
            }
        }
    }

    /** "of THE TAPE in order those whose LEVEL is within w" */
    private static void outsSeen() {
        for (int level = 0; level < 4; level++) {
            for (int w = 0; w < 3; w++) {
                WatchedPrograms x = Check.with("300000", "out " + level + " a;");
                Check.due("out of " + level + " for " + w, x.heaps(w, 0, 0, 0), SEES[w][level] ? 4 : 1);
                Check.due("safe from out of " + level + " for " + w, x.safe(w, 1), SEES[w][level] ? 0 : 1);
            }
        }
    }

    /** "BAD: OPEN numbers beyond, too." of heaps, heap, together; "numbers beyond, too" of both. */
    private static void openNumbersBeyond() {
        for (int open = 0; open <= 6; open++) {
            WatchedPrograms x = Check.with("000000".substring(6 - open) + "333333".substring(open), "out 0 a*b;");
            int beyond = power(open);
            for (int time = 0; time < 2; time++) {
                inAndOut("heaps, " + open + " open", x.heaps(0, time, beyond - 1, 0), x.heaps(0, time, beyond, 0));
                inAndOut("heap, " + open + " open", x.heap(0, time, beyond - 1, 0, 0), x.heap(0, time, beyond, 0, 0));
                inAndOut("together, " + open + " open", x.together(0, time, beyond - 1, 0), x.together(0, time, beyond, 0));
                inAndOut("together with, " + open + " open", x.together(0, time, 0, beyond - 1), x.together(0, time, 0, beyond));
                inAndOut("both, " + open + " open", x.both(time, beyond - 1), x.both(time, beyond));
                inAndOut("heaps below", x.heaps(0, time, 0, 1), x.heaps(0, time, -1, 1));
                inAndOut("heap below", x.heap(0, time, 0, 0, 1), x.heap(0, time, -1, 0, 1));
                inAndOut("together below", x.together(0, time, 0, 0), x.together(0, time, -1, 0));
                inAndOut("together with below", x.together(0, time, 0, 0), x.together(0, time, 0, -1));
                inAndOut("both below", x.both(time, 0), x.both(time, -1));
            }
        }
    }

    private static void inAndOut(String what, int within, int beyond) {
        Check.due(what + ": within answers", within >= 0 ? 1 : 0, 1);
        Check.due(what + ": beyond", beyond, BAD);
    }

    /** "SECRETS of w .. told as one number", "BAD: numbers beyond, too." */
    private static void secretsBeyond() {
        for (int w = 0; w < 4; w++) {
            for (int hidden = 0; hidden <= 6; hidden++) {
                String levels = "333333".substring(6 - hidden) + "000000".substring(hidden);
                WatchedPrograms x = Check.with(levels, "");
                int beyond = w == 3 ? 1 : power(hidden);
                Check.due("the last secret: many", x.heap(w, 1, 0, beyond - 1, 0), beyond);
                Check.due("the last secret: least", x.heap(w, 1, 0, beyond - 1, 1), 0);
                Check.due("a secret beyond", x.heap(w, 1, 0, beyond, 0), BAD);
                Check.due("a secret below", x.heap(w, 1, 0, -1, 1), BAD);
            }
        }
        // what is secret of 1 and of 2 is not the same
        WatchedPrograms x = Check.with("122000", "");
        Check.due("15 for 1", x.heap(1, 0, 255, 15, 0), 16);
        Check.due("16 for 1", x.heap(1, 0, 255, 16, 0), BAD);
        Check.due("open 256 for 1", x.heap(1, 0, 256, 15, 0), BAD);
        Check.due("3 for 2", x.heap(2, 0, 1023, 3, 0), 4);
        Check.due("4 for 2", x.heap(2, 0, 1023, 4, 0), BAD);
        Check.due("open 1024 for 2", x.heap(2, 0, 1024, 3, 0), BAD);
        Check.due("63 for 0", x.heap(0, 0, 63, 63, 0), 64);
        Check.due("64 for 0", x.heap(0, 0, 63, 64, 0), BAD);
    }

    /** "the first such CELL the lowest two bits, and so on" */
    private static void lowestBitsAreTheFirstCell() {
        for (int cell = 0; cell < 6; cell++) {
            String name = String.valueOf((char) ('a' + cell));
            // all secret: 1 in this cell alone comes out
            WatchedPrograms x = Check.with("333333", "out 0 (" + name + "=1);");
            Check.due("least secret with " + name + "=1", x.heap(0, 0, 0, 1 << 2 * cell, 1), 1 << 2 * cell);
            Check.due("first secret with " + name + "=1", x.pair(0, 0, 1), 1 << 2 * cell);
            // all but one open: the open number skips the secret cell
            StringBuilder levels = new StringBuilder("000000");
            levels.setCharAt(cell, '3');
            int other = cell == 5 ? 4 : 5;
            x = Check.with(levels.toString(), "if (" + (char) ('a' + other) + "=3){out 0 " + name + ";}");
            Check.due("open number without " + name, x.pair(0, 0, 0), 3 << 8);
            Check.due("secret number of " + name + " alone", x.pair(0, 0, 1), 1);
            Check.due("tells most without " + name, x.most(0, 0, 0), 3 << 8);
            Check.due("heaps without " + name, x.heaps(0, 0, 3 << 8, 0), 4);
            Check.due("heaps without " + name + " by another", x.heaps(0, 0, 0x2ff, 0), 1);
            Check.due("heap of " + name + "=2", x.heap(0, 0, 3 << 8, 2, 1), 2);
            Check.due("together without " + name, x.together(0, 0, 3 << 8, 0), 4);
            Check.due("both without " + name, x.both(0, 3 << 8), 4);
            x = Check.with(levels.toString(), "if " + name + "{" + (char) ('a' + other) + "=1;}");
            Check.due("what is only written, and 0 ahead", x.heaps(0, 0, 0, 0), 2);
            Check.due("what is only written, and 1 ahead", x.heaps(0, 0, 1 << 8, 0), 1);
            Check.due("its first pair", x.pair(0, 0, 0), 0);
        }
    }

    /** "a WATCHER w (0 .. 3) .. (TIME told: time = 1) .. (what = 0) .. (1). BAD" */
    private static void watchersAndTime() {
        for (int w = -2; w <= 5; w++) {
            for (int time = -1; time <= 2; time++) {
                WatchedPrograms x = Check.with("000000", "out 0 a;");
                boolean good = w >= 0 && w <= 3 && time >= 0 && time <= 1;
                String told = " of " + w + " with time " + time;
                for (int what = -1; what <= 2; what++) {
                    boolean all = good && what >= 0 && what <= 1;
                    Check.due("heaps" + told, x.heaps(w, time, 0, what), all ? 1 : BAD);
                    Check.due("heap" + told, x.heap(w, time, 0, 0, what), all ? 1 - what : BAD);
                    Check.due("pair" + told, x.pair(w, time, what), all ? NONE : BAD);
                    Check.due("most" + told, x.most(w, time, what), all ? what : BAD);
                    Check.due("stop" + told, x.stop(w, time, what), all ? 0 : BAD);
                }
                Check.due("safe" + told, x.safe(w, time), good ? 1 : BAD);
                Check.due("together" + told, x.together(w, time, 0, 0), good ? 1 : BAD);
                Check.due("both" + told, x.both(time, 0), time >= 0 && time <= 1 ? 1 : BAD);
            }
        }
    }

    /** "0 where there is none" */
    private static void noSecrets() {
        WatchedPrograms x = Check.with("123123", "out 0 a;out 1 b;b=c;");
        Check.due("heaps for 3", x.heaps(3, 1, 4095, 0), 1);
        Check.due("the greatest for 3", x.heaps(3, 1, 4095, 1), 1);
        Check.due("that of 0: many", x.heap(3, 1, 4095, 0, 0), 1);
        Check.due("that of 0: least", x.heap(3, 1, 4095, 0, 1), 0);
        Check.due("there is no secret 1", x.heap(3, 1, 4095, 1, 0), BAD);
        Check.due("safe for 3", x.safe(3, 1), 1);
        Check.due("pair for 3", x.pair(3, 1, 0), NONE);
        Check.due("most for 3", x.most(3, 1, 0), 0);
        Check.due("most heaps for 3", x.most(3, 1, 1), 1);
        Check.due("together for 3", x.together(3, 1, 0, 4095), 1);
        x = Check.with("333333", "out 0 1;");
        Check.due("nothing open: 0", x.heaps(0, 1, 0, 1), 4096);
        Check.due("nothing open: 1", x.heaps(0, 1, 1, 1), BAD);
        Check.due("nothing open: pair", x.pair(0, 1, 0), NONE);
        Check.due("nothing open: most", x.most(0, 1, 0), 0);
    }

    /** "How many; how many SECRETS the greatest has; how many are in that of a SECRET; the least of that." */
    private static void fewestAndMostHeaps() {
        WatchedPrograms x = Check.with("333333", "");
        Check.due("one heap", x.heaps(0, 1, 0, 0), 1);
        Check.due("of all secrets", x.heaps(0, 1, 0, 1), 4096);
        Check.due("that of the last: many", x.heap(0, 1, 0, 4095, 0), 4096);
        Check.due("that of the last: least", x.heap(0, 1, 0, 4095, 1), 0);
        x = Check.with("333333", "out 0 a;out 0 b;out 0 c;out 0 d;out 0 e;out 0 f;");
        Check.due("4096 heaps", x.heaps(0, 0, 0, 0), 4096);
        Check.due("of one secret each", x.heaps(0, 0, 0, 1), 1);
        Check.due("that of the last alone: many", x.heap(0, 0, 0, 4095, 0), 1);
        Check.due("that of the last alone: least", x.heap(0, 0, 0, 4095, 1), 4095);
        Check.due("most", x.most(0, 0, 1), 4096);
        Check.due("together", x.together(0, 0, 0, 0), 4096);
        Check.due("both", x.both(0, 0), 4096);
        x = Check.with("333333", "out 0 (a=3)*(b=3)*(c=3)*(d=3)*(e=3)*(f=3);");
        Check.due("the last is told: heaps", x.heaps(0, 0, 0, 0), 2);
        Check.due("the last is told: greatest", x.heaps(0, 0, 0, 1), 4095);
        Check.due("the last is told: its heap", x.heap(0, 0, 0, 4095, 0), 1);
        Check.due("the last is told: its least", x.heap(0, 0, 0, 4095, 1), 4095);
        Check.due("the one ahead: its heap", x.heap(0, 0, 0, 4094, 0), 4095);
        Check.due("the one ahead: its least", x.heap(0, 0, 0, 4094, 1), 0);
        x = Check.with("333333", "out 0 !a*!b*!c*!d*!e*!f;");
        Check.due("the first is told: its heap", x.heap(0, 0, 0, 0, 0), 1);
        Check.due("the first is told: that of 4095", x.heap(0, 0, 0, 4095, 1), 1);
        x = Check.with("030000", "if a{out 0 b;}");
        Check.due("one heap of all", x.heaps(0, 0, 0, 1), 4);
        Check.due("then four of one each", x.heaps(0, 0, 1, 1), 1);
        Check.due("then one of all", x.heaps(0, 0, 0, 1), 4);
        // the greatest heap is not the first
        x = Check.with("300000", "out 0 !a;");
        Check.due("the greatest is that of 1", x.heaps(0, 0, 0, 1), 3);
    }

    /** "with TIME told, its STEPS, too" */
    private static void timeIsStepsAlone() {
        WatchedPrograms x = Check.with("300000", "if a{b=b;}");
        Check.due("not told", x.heaps(0, 0, 0, 0), 1);
        Check.due("told", x.heaps(0, 1, 0, 0), 2);
        // 400 at most: what is beyond is not seen
        String ahead = "loop 8{loop 8{loop 6{b=0;}}}";
        x = Check.with("300000", ahead + "if a{b=b;}");
        Check.due("step 400 is reached either way", x.heaps(0, 1, 0, 0), 1);
        x = Check.with("300000", "loop 8{loop 8{b=0;b=0;b=0;b=0;b=0;}}loop 7{loop 8{c=2;}}c=1;c=1;c=1;c=1;c=1;if a{c=1;}");
        Check.due("399 and 400", x.heaps(0, 1, 0, 0), 2);
        x = Check.with("300000", "loop 8{loop 8{b=0;b=0;b=0;b=0;b=0;}}loop 7{loop 8{c=2;}}c=1;c=1;c=1;c=1;c=1;c=1;if a{c=1;}");
        Check.due("400 and 400", x.heaps(0, 1, 0, 0), 1);
    }

    /** "(20 at most are kept)": the 20th is seen, the 21st is not, whoever sees the others. */
    private static void tapeOfTwenty() {
        for (int level = 0; level < 4; level++) {
            String nineteen = "loop 3{loop 6{out " + level + " 1;}}out " + level + " 1;";
            WatchedPrograms x = Check.with("300000", nineteen + "out 0 a;");
            Check.due("the 20th behind those of " + level, x.heaps(0, 0, 0, 0), 4);
            x = Check.with("300000", nineteen + "out " + level + " 1;out 0 a;");
            Check.due("the 21st behind those of " + level, x.heaps(0, 0, 0, 0), 1);
            x = Check.with("300000", nineteen + "out " + level + " 1;if a{out 0 1;}");
            Check.due("whether there is a 21st behind those of " + level, x.heaps(0, 0, 0, 0), 1);
        }
        WatchedPrograms x = Check.with("000003", "loop 4{loop 5{out 0 3;}}a=f;");
        Check.due("20 and what is left", x.heaps(0, 0, 1023, 0), 4);
        x = Check.with("000030", "loop 4{loop 5{out 0 3;}}f=e;");
        Check.due("20 and what is left in f", x.heaps(0, 0, 1023, 0), 4);
        x = Check.with("300000", "loop 4{loop 5{out 0 3;}}if a{f=f;}");
        Check.due("20 and how long it takes", x.heaps(0, 1, 1023, 0), 2);
        x = Check.with("300000", "loop 4{loop 5{out 0 a;}}");
        Check.due("20 of one number", x.heaps(0, 0, 0, 0), 4);
        x = Check.with("300000", "if (a<2){loop 4{loop 5{out 0 0;}}}else{loop 3{loop 6{out 0 0;}}out 0 0;}");
        Check.due("20 noughts and 19", x.heaps(0, 0, 0, 0), 2);
        x = Check.with("300000", "if (a<2){out 0 0;}");
        Check.due("one nought and nothing", x.heaps(0, 0, 0, 0), 2);
    }

    /** "of THE TAPE in order" */
    private static void tapeInOrder() {
        WatchedPrograms x = Check.with("300000", "if a{out 0 1;out 0 2;}else{out 0 2;out 0 1;}");
        Check.due("two ways round", x.heaps(0, 0, 0, 0), 2);
        x = Check.with("300000", "if a{out 0 1;out 2 2;}else{out 2 2;out 0 1;}");
        Check.due("one of two is seen by 1", x.heaps(1, 0, 0, 0), 1);
        Check.due("both are seen by 2", x.heaps(2, 0, 0, 0), 2);
    }

    /** "SAFE for w: one HEAP by all OPEN numbers." */
    private static void safeByAllOpenNumbers() {
        WatchedPrograms x = Check.with("000003", "if (a=3)*(b=3)*(c=3)*(d=3)*(e=3){out 0 f;}");
        Check.due("by the last open number alone", x.safe(0, 0), 0);
        Check.due("one heap by the one ahead", x.heaps(0, 0, 1022, 0), 1);
        Check.due("heaps by the last", x.heaps(0, 0, 1023, 0), 4);
        x = Check.with("000003", "if !a*!b*!c*!d*!e{out 0 f;}");
        Check.due("by the first alone", x.safe(0, 0), 0);
        x = Check.with("000003", "if (a=3)*(b=3)*(c=3)*(d=3)*(e=3){out 3 f;}");
        Check.due("by none", x.safe(0, 0), 1);
        Check.due("by none, with time", x.safe(0, 1), 1);
    }

    /** "FIRST PAIR: the least OPEN number by which there are two HEAPS, the least SECRET that is not in that of 0." */
    private static void firstPair() {
        WatchedPrograms x = Check.with("003333", "if (a=3)*(b=3)*(c=3)*(d=3)*(e=3)*(f=3){out 0 1;}");
        Check.due("the last open number", x.pair(0, 0, 0), 15);
        Check.due("the last secret", x.pair(0, 0, 1), 255);
        x = Check.with("003333", "out 0 c;");
        Check.due("the first open number", x.pair(0, 0, 0), 0);
        Check.due("the secret behind 0", x.pair(0, 0, 1), 1);
        // by 1 there are two heaps, by 2 four: the least counts, not the most
        x = Check.with("030000", "if (a=1){out 0 (b=3);}if (a=2){out 0 b;}");
        Check.due("least open", x.pair(0, 0, 0), 1);
        Check.due("least secret by that one", x.pair(0, 0, 1), 3);
        // asked again, it begins anew
        x = Check.with("030000", "if (a=3){out 0 b;}if (a=1)*b{c=c;}");
        Check.due("least open without time", x.pair(0, 0, 0), 3);
        Check.due("least open with time", x.pair(0, 1, 0), 1);
        Check.due("least open without time again", x.pair(0, 0, 0), 3);
        x = Check.with("003333", "out 3 c;");
        Check.due("none: open", x.pair(0, 1, 0), NONE);
        Check.due("none: secret", x.pair(0, 1, 1), NONE);
    }

    /** "TELLS MOST: the least OPEN number by which there are most HEAPS." */
    private static void leastOpenThatTellsMost() {
        WatchedPrograms x = Check.with("030000", "out 0 1;");
        Check.due("all alike: 0", x.most(0, 0, 0), 0);
        Check.due("all alike: one heap", x.most(0, 0, 1), 1);
        x = Check.with("030000", "if (a=1){out 0 (b=3);}if (a=2){out 0 b;}if (a=3){out 0 b;}");
        Check.due("the first of two", x.most(0, 0, 0), 2);
        Check.due("four heaps", x.most(0, 0, 1), 4);
        x = Check.with("030000", "out 0 (b<a);");
        Check.due("the first of three that tell no more than half", x.most(0, 0, 0), 1);
        Check.due("two heaps", x.most(0, 0, 1), 2);
        x = Check.with("030000", "if (a=2)+(a=3){out 0 !b;}");
        Check.due("the first of the last two", x.most(0, 0, 0), 2);
        x = Check.with("000003", "if (a=3)*(b=3)*(c=3)*(d=3)*(e=3){out 0 f;}else{out 0 (f=1);}");
        Check.due("the last open number", x.most(0, 0, 0), 1023);
        x = Check.with("033000", "if (a=1){out 0 b;}if (a=2){out 0 b;out 0 (c=1);}if (a=3){out 0 c;}");
        Check.due("neither first nor last", x.most(0, 0, 0), 2);
        Check.due("eight heaps", x.most(0, 0, 1), 8);
    }

    /** "TOGETHER: by two OPEN numbers (both runs begin with the same SECRETS): HEAPS of what is SEEN of both." */
    private static void together() {
        WatchedPrograms x = Check.with("030000", "if (a=1){out 0 b&1;}if (a=2){out 0 b&2;}");
        Check.due("the same number twice", x.together(0, 0, 1, 1), 2);
        Check.due("two halves", x.together(0, 0, 1, 2), 4);
        Check.due("the other way round", x.together(0, 0, 2, 1), 4);
        Check.due("with one that tells nothing", x.together(0, 0, 0, 1), 2);
        Check.due("two that tell nothing", x.together(0, 0, 0, 3), 1);
        x = Check.with("003333", "if (a=1){out 0 c;out 0 d;}if (a=2){out 0 e;out 0 f;}");
        Check.due("all secrets", x.together(0, 0, 1, 2), 256);
        Check.due("those of one", x.together(0, 0, 2, 2), 16);
        // begins with the same secrets, though the first run changes them
        x = Check.with("030000", "out 0 (a=1)*(b=2);b=0;");
        Check.due("each run begins anew", x.together(0, 0, 1, 1), 2);
    }

    /** "BOTH of WATCHERS 1, 2: HEAPS of what either SEES, of the numbers of all CELLS that are not of LEVEL 0" */
    private static void both() {
        for (int level = 0; level < 4; level++) {
            WatchedPrograms x = Check.with(level + "00000", "");
            Check.due("a cell of " + level + " ahead", x.both(0, 0), level == 1 || level == 2 ? 4 : 1);
            x = Check.with("3" + level + "0000", "b=a;");
            int shown = level == 1 || level == 2 ? 4 : 1;
            Check.due("a cell of " + level + " behind", x.both(0, 0), level == 3 ? 1 : 4 * shown);
            x = Check.with("300000", "out " + level + " a;");
            Check.due("an out of " + level, x.both(0, 0), level == 3 ? 1 : 4);
            int open = power(level == 0 ? 6 : 5);
            x = Check.with(level + "00000", "");
            Check.due("the last open number", x.both(1, open - 1), level == 1 || level == 2 ? 4 : 1);
            Check.due("the one behind", x.both(1, open), BAD);
        }
        WatchedPrograms x = Check.with("330000", "out 1 a;out 2 b;");
        Check.due("each learns one", x.both(0, 0), 16);
        Check.due("1 alone", x.heaps(1, 0, 0, 0), 4);
        Check.due("2 alone", x.heaps(2, 0, 0, 0), 4);
        // a of level 1 is seen by 1 alone, yet it parts what both see
        x = Check.with("133000", "if (a=2){out 2 b;}if (a=3){out 1 b;out 1 c;}");
        Check.due("by a: 1, 1, 4 and 16", x.both(0, 0), 22);
        x = Check.with("120330", "if (a=2)*(b=3){out 1 d;out 2 e;}");
        Check.due("by a and b: 15 and 16", x.both(0, 0), 31);
        Check.due("the same by other numbers of c and f", x.both(0, 15), 31);
        x = Check.with("133300", "if (e=3){if (a=2){out 2 b;}}");
        Check.due("by open numbers 0", x.both(0, 0), 4);
        Check.due("by f = 3", x.both(0, 12), 4);
        Check.due("by the last open numbers", x.both(0, 15), 7);
        Check.due("by e = 3", x.both(0, 3), 7);
        x = Check.with("111222", "");
        Check.due("all cells are seen", x.both(0, 0), 4096);
        x = Check.with("333333", "");
        Check.due("no cell is seen", x.both(0, 0), 1);
        x = Check.with("300000", "if a{b=b;}");
        Check.due("time is not told", x.both(0, 0), 1);
        Check.due("time is told", x.both(1, 0), 2);
    }
}
