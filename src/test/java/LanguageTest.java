import java.io.IOException;
import java.nio.file.Files;
import java.nio.file.Path;
import java.util.regex.Matcher;
import java.util.regex.Pattern;

/** What of LANGUAGE.md can be seen in the source's words; .ci/run starts it in the project's folder. */
public final class LanguageTest {
    private static final String[] FORBIDDEN = {
        "\\b(throw|throws|try|catch|finally|synchronized|assert|import|package|native|volatile|transient|protected)\\b",
        "->", "::", "\\bnew\\s+\\w+\\([^)]*\\)\\s*\\{", "\\w*Exact\\b", "\\b(hashCode|toString|getClass)\\b",
        "\\b(Object|Thread|Random|System|Character|HashMap|Map|Set|Optional|Stream)\\b", "@\\w+", "\\bstatic\\s*\\{",
        "\\[\\s*\\]\\s*\\[\\s*\\]\\s*\\[", "\\bvar\\b"};
    private static final int LONGEST_METHOD = 60;

    public static void main(String[] args) throws IOException {
        String source = Files.readString(Path.of("src/main/java/WatchedPrograms.java"));
        for (int i = 0; i < source.length(); i++) {
            if (source.charAt(i) > 126) Check.due("sign at " + i, source.charAt(i), 0);
        }
        String code = source.replaceAll("(?s)/\\*.*?\\*/", "").replaceAll("//[^\n]*", "").replaceAll("\"[^\"\n]*\"", "\"\"");
        for (String pattern : FORBIDDEN) {
            Matcher m = Pattern.compile(pattern).matcher(code);
            Check.due("'" + pattern + "'" + (m.find() ? " stands in " + line(code, m.start()) : ""), m.reset().find() ? 1 : 0, 0);
        }
        libraryCalls(code);
        methodLengths(code);
        Matcher classes = Pattern.compile("\\bclass \\w+").matcher(code);
        int many = 0;
        while (classes.find()) many++;
        Check.due("some twelve classes at most, there are " + many, many <= 12 ? 1 : 0, 1);
        Check.end("LanguageTest");
    }

    private static void libraryCalls(String code) {
        Matcher m = Pattern.compile("\\b(Math|Integer|Long|String|Arrays)\\.(\\w+)").matcher(code);
        while (m.find()) {
            boolean listed = m.group().matches("Math\\.(min|max|abs)|Integer\\.bitCount");
            Check.due(m.group() + " is listed", listed ? 1 : 0, 1);
        }
    }

    private static void methodLengths(String code) {
        String[] lines = code.split("\n");
        int begin = -1;
        String end = "";
        for (int i = 0; i < lines.length; i++) {
            Matcher m = Pattern.compile("^( {4}| {8})\\S.*\\(.*\\) \\{$").matcher(lines[i]);
            if (begin < 0 && m.find()) {
                begin = i;
                end = m.group(1) + "}";
                int parameters = lines[i].replaceAll("[^,]", "").length() + 1;
                Check.due("seven parameters at most in " + lines[i].trim(), parameters <= 7 ? 1 : 0, 1);
            } else if (begin >= 0 && lines[i].equals(end)) {
                Check.due("length of " + lines[begin].trim(), i - begin < LONGEST_METHOD ? 1 : 0, 1);
                begin = -1;
            }
        }
    }

    private static String line(String code, int at) {
        int from = code.lastIndexOf('\n', at) + 1;
        int to = code.indexOf('\n', at);
        return code.substring(from, to < 0 ? code.length() : to).trim();
    }
}
