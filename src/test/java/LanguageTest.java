import java.io.IOException;
import java.lang.reflect.Field;
import java.lang.reflect.Method;
import java.lang.reflect.Modifier;
import java.nio.file.Files;
import java.nio.file.Path;
import java.util.ArrayList;
import java.util.HashMap;
import java.util.List;
import java.util.Map;
import java.util.Set;
import java.util.regex.Matcher;
import java.util.regex.Pattern;

/** The rules of ../shared/LANGUAGE.md that can be seen from the signs of the class's file. */
public final class LanguageTest {
    private static final Path FILE = Path.of("src/main/java/CensusLoom.java");
    private static final int LONGEST_METHOD = 60;
    private static final int DEEPEST_CALLS = 8;
    private static final int MOST_CLASSES = 12;
    private static final int MOST_FIELDS = 20;
    private static final int MOST_PARAMETERS = 7;
    private static final String[] RULED_OUT = {
        "->", "::", "\\b(catch|try|finally|synchronized|assert|package|native|volatile|transient)\\b",
        "\\b(equals|hashCode|toString)\\(\\w", "Exact\\(", "\\bstatic \\{", "@", "\\b(var|Object|System|Thread)\\b",
        "\"\\s*\\+|\\+\\s*\"", "\\b(protected)\\b", "\\[\\]\\s*\\[\\]\\s*\\[\\]",
    };
    private static final Set<String> WORDS_BEFORE_BRACKETS = Set.of("if", "for", "while", "switch", "return");
    private static final Set<String> LIBRARY = Set.of("length", "charAt", "append", "toString", "min", "max",
            "bitCount");
    private static final Set<Class<?>> CONSTANTS = Set.of(int.class, long.class, boolean.class, char.class,
            String.class);

    private static String withoutComments(String source) {
        return source.replaceAll("(?s)/\\*.*?\\*/", "").replaceAll("//[^\n]*", "");
    }

    private static int found(String pattern, String text) {
        Matcher matcher = Pattern.compile(pattern).matcher(text);
        int number = 0;
        while (matcher.find()) {
            number++;
        }
        return number;
    }

    private static void imports(String code) {
        Check.due("imports", () -> found("\\bimport\\b", code), 1);
        Check.due("the import", () -> code.contains("import java.util.NoSuchElementException;"), true);
    }

    private static void throwing(String code) {
        String due = "throw new (IllegalStateException|IllegalArgumentException|IndexOutOfBoundsException"
            + "|ArithmeticException|UnsupportedOperationException|NoSuchElementException|RuntimeException)"
            + "\\((\"[^\"]*\")?\\);";
        Check.due("each throw has the due form", () -> found(due, code), found("\\bthrow\\b", code));
    }

    private static void lengths(List<String> lines) {
        int start = -1;
        for (int line = 0; line < lines.size(); line++) {
            String text = lines.get(line);
            int indent = text.length() - text.stripLeading().length();
            boolean opens = text.endsWith("{") && (indent == 4 || indent == 8) && !text.contains("class ");
            if (opens && start < 0) {
                start = line;
            }
            if (start >= 0 && text.strip().equals("}") && indent <= 8) {
                int length = line - start;
                int at = start + 1;
                Check.due("line " + at + " starts a method that is short", () -> length <= LONGEST_METHOD, true);
                start = -1;
            }
        }
    }

    /** Rule 11: how many classes there are, and how large they and their methods' heads are; rule 5: static fields. */
    private static void sizes() {
        List<Class<?>> classes = new ArrayList<>(List.of(CensusLoom.class.getDeclaredClasses()));
        classes.add(CensusLoom.class);
        Check.due("few classes", () -> classes.size() <= MOST_CLASSES, true);
        for (Class<?> type : classes) {
            int fields = 0;
            for (Field field : type.getDeclaredFields()) {
                boolean isStatic = Modifier.isStatic(field.getModifiers());
                fields += isStatic ? 0 : 1;
                Check.due(field + " is not static, or a constant", () -> !isStatic
                        || Modifier.isFinal(field.getModifiers()) && CONSTANTS.contains(field.getType()), true);
            }
            int ownFields = fields;
            Check.due("few fields in " + type, () -> ownFields <= MOST_FIELDS, true);
            for (Method method : type.getDeclaredMethods()) {
                Check.due("few parameters of " + method, () -> method.getParameterCount() <= MOST_PARAMETERS, true);
            }
        }
    }

    /** The text of each method behind its head, of all that have the same name together. */
    private static Map<String, String> bodies(List<String> lines) {
        Map<String, String> bodies = new HashMap<>();
        Pattern head = Pattern.compile("^ {4}(?: {4})?(?:\\w+(?:\\[\\])? )+(\\w+)\\(.*");
        String name = null;
        for (String line : lines) {
            Matcher matcher = head.matcher(line);
            boolean isHead = matcher.matches() && !line.endsWith(";") && !line.contains(" = ");
            if (isHead) {
                name = matcher.group(1);
                bodies.putIfAbsent(name, "");
            } else if (name != null) {
                bodies.merge(name, line + "\n", String::concat);
            }
        }
        return bodies;
    }

    /** Rule 4: what is called is a method of the file, or one of those few of the library. */
    private static void library(String code, Set<String> own) {
        Matcher calls = Pattern.compile("(new )?\\b(\\w+)\\s*\\(").matcher(code);
        while (calls.find()) {
            String name = calls.group(2);
            boolean isMade = Character.isUpperCase(name.charAt(0));
            Check.due("a call that the rules list: " + name, () -> isMade || own.contains(name)
                    || LIBRARY.contains(name) || WORDS_BEFORE_BRACKETS.contains(name), true);
        }
    }

    private static int depth(String name, Map<String, String> bodies, int above) {
        int deepest = 0;
        Matcher calls = Pattern.compile("\\b(\\w+)\\(").matcher(bodies.get(name));
        while (calls.find() && above <= DEEPEST_CALLS) {
            if (bodies.containsKey(calls.group(1))) {
                deepest = Math.max(deepest, depth(calls.group(1), bodies, above + 1));
            }
        }
        return deepest + 1;
    }

    /** Rule 11: calls go at most eight deep; there is no recursion, which would be deeper. */
    private static void depths(List<String> lines) {
        Map<String, String> bodies = bodies(lines);
        Check.due("the methods were met", () -> bodies.keySet().containsAll(
                List.of("addBlock", "addRecord", "settle", "nameScore", "isSafe", "hasClosedWay", "lineOf")), true);
        for (String name : bodies.keySet()) {
            Check.due("calls below " + name, () -> depth(name, bodies, 1) <= DEEPEST_CALLS, true);
        }
    }

    public static void main(String[] args) throws IOException {
        String source = Files.readString(FILE);
        String code = withoutComments(source);
        for (String pattern : RULED_OUT) {
            Check.due("ruled out: " + pattern, () -> found(pattern, code), 0);
        }
        Check.due("signs up to 126", () -> source.chars().allMatch(c -> c == '\n' || c >= 32 && c < 127), true);
        imports(code);
        throwing(code);
        lengths(source.lines().toList());
        sizes();
        depths(code.lines().toList());
        library(code, bodies(code.lines().toList()).keySet());
        Check.end();
    }
}
