import java.io.IOException;
import java.lang.reflect.Method;
import java.lang.reflect.Modifier;
import java.nio.file.Files;
import java.nio.file.Path;

/** README.md's example answers as it says there, and every call is told; .ci/run starts it in the project's folder. */
public final class ReadmeTest {
    private static String readme = "";

    public static void main(String[] args) throws IOException {
        readme = Files.readString(Path.of("README.md"));
        WatchedPrograms x = new WatchedPrograms();
        says("x.level(0, 3);", x.level(0, 3), 0);
        says("x.type(0x6f7574203020613bL, 8);       // \"out 0 a;\"", x.type(0x6f7574203020613bL, 8), 8);
        says("x.read();                             // 1 statement", x.read(), 1);
        says("x.run(2);                             // a = 2 ahead of it: answers 2,", x.run(2), 2);
        says("x.tape(0, 0);                         // 2 came out", x.tape(0, 0), 2);
        says("x.heaps(0, 0, 0, 0);                  // 4:", x.heaps(0, 0, 0, 0), 4);
        says("x.safe(0, 0);                         // 0:", x.safe(0, 0), 0);
        says("x.stop(0, 0, 1);                      // 1:", x.stop(0, 0, 1), 1);
        statements();
        everyCall();
        Check.end("ReadmeTest");
    }

    private static void says(String line, int got, int want) {
        Check.due(line, got, want);
        Check.due("README.md says " + line, readme.contains(line) ? 1 : 0, 1);
    }

    /** The statements that it shows are such, each alone. */
    private static void statements() {
        String[] shown = {"c = a + 2 * b;", "out 1 (a < b);", "if !a { .. } else { .. }", "loop 3 { .. }"};
        for (String s : shown) says("`" + s + "`", Check.read(new WatchedPrograms(), s.replace("..", "")), 1);
    }

    private static void everyCall() {
        for (Method m : WatchedPrograms.class.getDeclaredMethods()) {
            if (!Modifier.isPublic(m.getModifiers())) continue;
            String row = "\n| `" + m.getName() + "(";
            int at = readme.indexOf(row);
            Check.due("README.md tells " + m.getName(), at >= 0 ? 1 : 0, 1);
            if (at < 0) continue;
            String told = readme.substring(at + row.length(), readme.indexOf(')', at));
            Check.due("numbers of " + m.getName(), told.isEmpty() ? 0 : told.split(",").length, m.getParameterCount());
        }
    }
}
