import java.io.IOException;
import java.lang.reflect.Method;
import java.lang.reflect.Modifier;
import java.net.URL;
import java.net.URLClassLoader;
import java.nio.file.Files;
import java.nio.file.Path;
import java.util.ArrayList;
import java.util.HashSet;
import java.util.List;
import java.util.Set;
import java.util.function.Supplier;
import java.util.regex.Matcher;
import java.util.regex.Pattern;
import javax.tools.JavaCompiler;
import javax.tools.ToolProvider;

/**
 * What README.md says: the calls of its example have the answers that stand behind them, its tables have the methods
 * of the face under the document's heads, and each test program is named. The example is made into a program and run
 * from the page's own text, so that the page cannot drift from what is tested.
 */
public final class ReadmeTest {
    private static final Path PAGE = Path.of("README.md");
    private static final Path DOCUMENT = Path.of("../shared/DOC.md");
    private static final Path TESTS = Path.of("src/test/java");
    private static final Path OUT = Path.of("build/readme");
    private static final String PROGRAM = "ReadmeExample";
    private static final int MOST_CALLS = 512;
    private static final Pattern ANSWERED = Pattern.compile("(\\w+\\.\\w+\\(.*\\)); +// (.+)");
    private static final Pattern ROW = Pattern.compile("\\| `(\\w+ \\w+\\(.*?\\))` \\| .+ \\| (.+) \\|");

    private static int calls = 0;

    /** Called by the program that the example is made into: what a call answers, as the page writes it. */
    public static void look(String call, Supplier<Object> made, String due) {
        calls++;
        Check.due("README: " + call, () -> written(Check.outcome(made::get)), due);
    }

    private static String written(Object answer) {
        if (answer instanceof Character) {
            return "'" + answer + "'";
        }
        return answer instanceof Class<?> type ? "throws " + type.getSimpleName() : String.valueOf(answer);
    }

    /** The lines of the page's only block of Java. */
    private static List<String> example(String page) {
        String[] parts = page.split("(?m)^```(java)?\n");
        Check.due("README has one block of Java", () -> parts.length, 3);
        return parts.length == 3 ? parts[1].lines().toList() : List.of();
    }

    private static String program(List<String> example) {
        StringBuilder text = new StringBuilder("public final class " + PROGRAM + " {\n  public static void run() {\n");
        for (String line : example) {
            Matcher answered = ANSWERED.matcher(line.strip());
            if (answered.matches()) {
                // Behind a colon and a space stands why the answer is this one.
                String due = answered.group(2).split(": ")[0];
                String call = answered.group(1);
                text.append("ReadmeTest.look(").append(quoted(call)).append(", () -> ").append(call).append(", ")
                        .append(quoted(due)).append(");\n");
            } else {
                text.append(line).append('\n');
            }
        }
        return text.append("  }\n}\n").toString();
    }

    private static String quoted(String text) {
        return '"' + text.replace("\\", "\\\\").replace("\"", "\\\"") + '"';
    }

    private static void run(String program) throws Exception {
        Files.createDirectories(OUT);
        Path file = OUT.resolve(PROGRAM + ".java");
        Files.writeString(file, program);
        JavaCompiler javac = ToolProvider.getSystemJavaCompiler();
        int end = javac.run(null, null, null, "-nowarn", "-cp", System.getProperty("java.class.path"), "-d",
                OUT.toString(), file.toString());
        Check.due("README's example compiles", () -> end, 0);
        if (end != 0) {
            return;
        }
        try (URLClassLoader loader = new URLClassLoader(new URL[] {OUT.toUri().toURL()},
                ReadmeTest.class.getClassLoader())) {
            loader.loadClass(PROGRAM).getMethod("run").invoke(null);
        }
    }

    private static List<Method> face() {
        List<Method> face = new ArrayList<>();
        for (Method method : CensusLoom.class.getDeclaredMethods()) {
            if (Modifier.isPublic(method.getModifiers())) {
                face.add(method);
            }
        }
        return face;
    }

    /** Each line with a call of one method has its answer, and each method is shown. */
    private static void exampleIsWhole(List<String> example) {
        Set<String> shown = new HashSet<>();
        for (String line : example) {
            Matcher call = Pattern.compile("^loom\\.(\\w+)\\(").matcher(line);
            if (call.find()) {
                shown.add(call.group(1));
                Check.due("README tells the answer: " + line, () -> ANSWERED.matcher(line).matches(), true);
            }
        }
        for (Method method : face()) {
            Check.due("README's example shows " + method.getName(), () -> shown.contains(method.getName()), true);
        }
        Check.due("README's example looks at its answers", () -> calls >= shown.size() && calls < MOST_CALLS, true);
    }

    /** A row's method as FaceTest writes it: its types, and the exceptions in their order. */
    private static String told(String head, String exceptions) {
        StringBuilder text = new StringBuilder(head.replaceAll("(\\w+) \\w+(?=[,)])", "$1").replace(", ", ","));
        Matcher named = Pattern.compile("\\w+Exception\\b").matcher(exceptions);
        while (named.find()) {
            text.append(' ').append(named.group());
        }
        return text.toString();
    }

    private static String section(String page, String head) {
        String[] behind = page.split("(?m)^### " + Pattern.quote(head) + "$");
        return behind.length == 2 ? behind[1].split("(?m)^##")[0] : "";
    }

    /** The document says ahead of which calls each head stands; the page has a row for each, in their order. */
    private static void tables(String page, String document) {
        Set<String> face = new HashSet<>();
        for (Method method : face()) {
            face.add(FaceTest.told(method));
        }
        Matcher heads = Pattern.compile("(?m)^Ahead of the calls (.+) the interface says: (.+)\\.$").matcher(document);
        int met = 0;
        while (heads.find()) {
            List<String> names = new ArrayList<>();
            Matcher row = ROW.matcher(section(page, heads.group(2)));
            while (row.find()) {
                String method = told(row.group(1), row.group(2));
                Check.due("README: a method of the face: " + method, () -> face.contains(method), true);
                names.add(row.group(1).replaceAll("^\\w+ |\\(.*", ""));
                met++;
            }
            String due = heads.group(1).replace("`", "");
            Check.due("README: the methods below " + heads.group(2), () -> String.join(", ", names), due);
        }
        int rows = met;
        Check.due("README has a row for each method", () -> rows, face.size());
    }

    private static void namesOfTests(String page) throws IOException {
        try (var files = Files.list(TESTS)) {
            for (Path file : files.toList()) {
                String name = file.getFileName().toString().replace(".java", "");
                Check.due("README names " + name, () -> page.contains("`" + name + "`"), true);
            }
        }
    }

    public static void main(String[] args) throws Exception {
        String page = Files.readString(PAGE);
        List<String> example = example(page);
        run(program(example));
        exampleIsWhole(example);
        tables(page, Files.readString(DOCUMENT));
        namesOfTests(page);
        Check.end();
    }
}
