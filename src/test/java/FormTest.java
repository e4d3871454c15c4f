import java.io.IOException;
import java.nio.file.Files;
import java.nio.file.Path;
import java.util.regex.Matcher;
import java.util.regex.Pattern;

/** What the source may not hold by LANGUAGE.md: rules 2, 4, 6, 10, 11, as far as its words show it. */
public final class FormTest {
    private static final Check check = new Check();
    private static final int MOST_LINES = 60;

    public static void main(String[] args) throws IOException {
        String source = Files.readString(Path.of(System.getProperty("source")));
        check.due("a sign beyond 127", source.chars().anyMatch(c -> c > 127) ? 1 : 0, 0);
        String code = source.replaceAll("(?s)/\\*.*?\\*/", "").replaceAll("//[^\n]*", "")
            .replaceAll("\"[^\"\n]*\"", "\"\"").replaceAll("'[^'\n]'", "' '");
        words(code);
        lengths(code);
        check.end();
    }

    private static void words(String code) {
        String[] patterns = {"\\b(throw|throws|try|catch|finally|synchronized|assert|import|package|native|volatile)\\b",
            "->", "::", "static\\s*\\{", "\\b(equals|hashCode|toString|getClass)\\b", "\"\"\\s*\\+", "\\+\\s*\"\"",
            "Exact\\b", "\\b(Object|Thread|Random)\\b", "System\\.(?!arraycopy)",
            "\\b(Integer|Long|Math)\\.(?!MIN_VALUE)[A-Z]"};
        for (String pattern : patterns) {
            Matcher m = Pattern.compile(pattern).matcher(code);
            boolean found = m.find();
            check.due("the source holds " + (found ? "'" + m.group() + "'" : pattern), found ? 1 : 0, 0);
        }
    }

    private static void lengths(String code) {
        String[] lines = code.split("\n");
        int begun = -1;
        int depth = 0;
        for (int k = 0; k < lines.length; k++) {
            String line = lines[k];
            boolean method = line.matches("\\s+[\\w\\[\\] ]+\\([^;]*\\) \\{") && !line.contains(" new ")
                && !line.matches("\\s*(\\} else )?(if|for|while|switch|return)\\b.*");
            if (method) {
                begun = k;
                depth = line.indexOf(line.trim());
                int parameters = line.contains("()") ? 0 : line.split(",").length;
                check.due("parameters in line " + (k + 1), parameters > 7 ? parameters : 0, 0);
            }
            if (begun >= 0 && line.trim().equals("}") && line.indexOf('}') == depth) {
                check.due("lines of the method at " + (begun + 1), k - begun + 1 > MOST_LINES ? k - begun + 1 : 0, 0);
                begun = -1;
            }
        }
        check.due("methods were seen", begun, -1);
    }
}
