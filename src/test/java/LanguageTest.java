import java.io.IOException;
import java.nio.file.Files;
import java.nio.file.Path;
import java.util.List;
import java.util.regex.Matcher;
import java.util.regex.Pattern;

/** The rules of ../shared/LANGUAGE.md that can be seen from the signs of the class's file. */
public final class LanguageTest {
    private static final Path FILE = Path.of("src/main/java/CensusLoom.java");
    private static final int LONGEST_METHOD = 60;
    private static final String[] RULED_OUT = {
        "->", "::", "\\b(catch|try|finally|synchronized|assert|package|native|volatile|transient)\\b",
        "\\b(equals|hashCode|toString)\\(\\w", "Exact\\(", "\\bstatic \\{", "@", "\\b(var|Object|System|Thread)\\b",
        "\"\\s*\\+|\\+\\s*\"", "\\b(protected)\\b", "\\[\\]\\s*\\[\\]\\s*\\[\\]",
    };

    private static String withoutComments(String source) {
        return source.replaceAll("(?s)/\\*.*?\\*/", "").replaceAll("//[^\n]*", "");
    }

    private static int found(String pattern, String text) {
        Matcher matcher = Pattern.compile(pattern).matcher(text);
        int number = 0;
        while (matcher.find()) {
            number++;
        }
        return number;
    }

    private static void imports(String code) {
        Check.due("imports", () -> found("\\bimport\\b", code), 1);
        Check.due("the import", () -> code.contains("import java.util.NoSuchElementException;"), true);
    }

    private static void throwing(String code) {
        String due = "throw new (IllegalStateException|IllegalArgumentException|IndexOutOfBoundsException"
            + "|ArithmeticException|UnsupportedOperationException|NoSuchElementException|RuntimeException)"
            + "\\((\"[^\"]*\")?\\);";
        Check.due("each throw has the due form", () -> found(due, code), found("\\bthrow\\b", code));
    }

    private static void lengths(List<String> lines) {
        int start = -1;
        for (int line = 0; line < lines.size(); line++) {
            String text = lines.get(line);
            int indent = text.length() - text.stripLeading().length();
            boolean opens = text.endsWith("{") && (indent == 4 || indent == 8) && !text.contains("class ");
            if (opens && start < 0) {
                start = line;
            }
            if (start >= 0 && text.strip().equals("}") && indent <= 8) {
                int length = line - start;
                int at = start + 1;
                Check.due("line " + at + " starts a method that is short", () -> length <= LONGEST_METHOD, true);
                start = -1;
            }
        }
    }

    public static void main(String[] args) throws IOException {
        String source = Files.readString(FILE);
        String code = withoutComments(source);
        for (String pattern : RULED_OUT) {
            Check.due("ruled out: " + pattern, () -> found(pattern, code), 0);
        }
        Check.due("signs up to 126", () -> source.chars().allMatch(c -> c == '\n' || c >= 32 && c < 127), true);
        imports(code);
        throwing(code);
        lengths(source.lines().toList());
        Check.end();
    }
}
