/** Promises 1 to 4 and 21: a new object, level, type, clear, count. */
public final class CellsAndTextTest {
    public static void main(String[] args) {
        newObject();
        levels();
        typing();
        counts();
        Check.end("CellsAndTextTest");
    }

    private static void newObject() {
        WatchedPrograms x = new WatchedPrograms();
        Check.due("new: statements", x.count(0), 0);
        Check.due("new: outs", x.count(1), 0);
        Check.due("new: bytes", x.count(2), 0);
        Check.due("new: open cells", x.count(3), 6);
        for (int what = 4; what <= 6; what++) Check.due("new: cells of " + (what - 3), x.count(what), 0);
        for (int what = 0; what <= 2; what++) Check.due("new: ran " + what, x.ran(what), 0);
        Check.due("new: tape", x.tape(0, 0), WatchedPrograms.BAD);
        Check.due("new: heaps", x.heaps(0, 0, 4095, 0), 1);
        Check.due("new: greatest heap", x.heaps(0, 1, 0, 1), 1);
        Check.due("new: safe", x.safe(0, 1), 1);
        Check.due("new: pair", x.pair(0, 0, 0), WatchedPrograms.NONE);
        Check.due("new: most", x.most(0, 0, 0), 0);
        Check.due("new: most heaps", x.most(0, 0, 1), 1);
        Check.due("new: together", x.together(0, 0, 0, 4095), 1);
        Check.due("new: both", x.both(0, 4095), 1);
        Check.due("new: flows", x.flows(0), 0);
        Check.due("new: first leak", x.flows(1), WatchedPrograms.NONE);
        Check.due("new: statement", x.statement(0, 0), WatchedPrograms.BAD);
        Check.due("new: raised", x.raised(5), 0);
        Check.due("new: stop", x.stop(0, 0, 0), 0);
        Check.due("new: tooMuch", x.tooMuch(), 0);
        Check.due("new: run", x.run(4095), 4095);
        Check.due("new: read", x.read(), 0);
    }

    private static void levels() {
        WatchedPrograms x = new WatchedPrograms();
        for (int c = 0; c < 6; c++) {
            Check.due("level was", x.level(c, c & 3), 0);
            Check.due("level was then", x.level(c, 3 - (c & 3)), c & 3);
        }
        int[] wrongCells = {-1, 6, Integer.MIN_VALUE, Integer.MAX_VALUE};
        for (int c : wrongCells) Check.due("level of cell " + c, x.level(c, 0), WatchedPrograms.BAD);
        int[] wrongLevels = {-1, 4, Integer.MIN_VALUE, Integer.MAX_VALUE};
        for (int v : wrongLevels) Check.due("level " + v, x.level(0, v), WatchedPrograms.BAD);
        Check.due("a refused level changes nothing", x.level(0, 0), 3);
    }

    private static void typing() {
        WatchedPrograms x = new WatchedPrograms();
        Check.due("type of 0 bytes", x.type('a', 0), WatchedPrograms.BAD);
        Check.due("type of 9 bytes", x.type('a', 9), WatchedPrograms.BAD);
        Check.due("type of -1 bytes", x.type('a', -1), WatchedPrograms.BAD);
        Check.due("bytes after refusals", x.count(2), 0);
        long text = 'b' << 24 | '=' << 16 | '3' << 8 | ';';
        Check.due("the lowest bytes alone", x.type(0x7777777700000000L | text, 4), 4);
        Check.due("the highest first", x.read(), 1);
        Check.due("what was typed", x.run(0), 12);
        Check.due("read leaves no text", x.count(2), 0);
        for (int n = 8; n <= 296; n += 8) Check.due("type", x.type(-1L, 8), n);
        Check.due("beyond 300", x.type(-1L, 5), WatchedPrograms.FULL);
        Check.due("BAD ahead of FULL", x.type(-1L, 9), WatchedPrograms.BAD);
        Check.due("a refused one adds nothing", x.count(2), 296);
        Check.due("just 300", x.type(-1L, 4), 300);
        Check.due("one more", x.type(-1L, 1), WatchedPrograms.FULL);
        Check.due("clear", x.clear(), 300);
        Check.due("clear again", x.clear(), 0);
        Check.due("type after clear", x.type(' ', 1), 1);
    }

    private static void counts() {
        WatchedPrograms x = Check.with("013321", "a=1;out 0 a;if a{out 3 b;}loop 2{out 1 c;}");
        int[] want = {6, 3, 0, 1, 2, 1, 2};
        for (int what = 0; what < want.length; what++) Check.due("count " + what, x.count(what), want[what]);
        Check.type(x, "a=1");
        Check.due("count of bytes", x.count(2), 3);
        Check.due("count -1", x.count(-1), WatchedPrograms.BAD);
        Check.due("count 7", x.count(7), WatchedPrograms.BAD);
        Check.due("count of the least", x.count(Integer.MIN_VALUE), WatchedPrograms.BAD);
        Check.due("count of the greatest", x.count(Integer.MAX_VALUE), WatchedPrograms.BAD);
    }
}
