/** What the tests share: telling wrong answers, typing texts, and ending with the right exit code. */
final class Check {
    private static int right = 0;
    private static int wrong = 0;

    private Check() {
    }

    static void due(String what, long got, long want) {
        if (got == want) {
            right++;
        } else {
            wrong++;
            System.out.println(what + " answered " + got + ", due is " + want);
        }
    }

    /** The last answer of type(), or the number of bytes if there is nothing to type. */
    static int type(WatchedPrograms x, String text) {
        int answer = x.count(2);
        for (int from = 0; from < text.length(); from += 8) {
            int to = Math.min(text.length(), from + 8);
            long v = 0;
            for (int i = from; i < to; i++) v = v << 8 | text.charAt(i) & 255;
            answer = x.type(v, to - from);
        }
        return answer;
    }

    /** Types and reads. */
    static int read(WatchedPrograms x, String text) {
        x.clear();
        type(x, text);
        return x.read();
    }

    /** A new object whose cells have these levels, with this program. */
    static WatchedPrograms with(String levels, String text) {
        WatchedPrograms x = new WatchedPrograms();
        for (int c = 0; c < levels.length(); c++) x.level(c, levels.charAt(c) - '0');
        int answer = read(x, text);
        if (answer < 0) due("read of " + text, answer, 0);
        return x;
    }

    static String repeat(String part, int times) {
        return part.repeat(times);
    }

    static void end(String test) {
        System.out.println(test + ": " + right + " answers as due, " + wrong + " not");
        if (wrong != 0) System.exit(1);
    }
}
