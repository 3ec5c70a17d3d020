import java.io.IOException;
import java.lang.reflect.Method;
import java.net.URL;
import java.net.URLClassLoader;
import java.nio.file.Files;
import java.nio.file.Path;
import java.util.ArrayList;
import java.util.Comparator;
import java.util.List;
import java.util.Set;
import java.util.TreeSet;
import java.util.regex.Matcher;
import java.util.regex.Pattern;
import java.util.stream.Stream;
import javax.tools.JavaCompiler;
import javax.tools.ToolProvider;

/** What README.md shows of the class's use holds when it is run, and it leaves out no call and no test. */
public final class ReadmeTest {
    private static final String README = "README.md";
    private static final String TESTS = "src/test/java";
    private static final String PROGRAM = "ReadmeProgram";
    private static final String HEAD = """
            import java.util.ArrayList;
            import java.util.List;
            import java.util.function.Supplier;

            public final class ReadmeProgram {
                private static final List<String[]> ROWS = new ArrayList<>();

                private static void row(String line, Supplier<Object> call, String due) {
                    String got;
                    try {
                        got = String.valueOf(call.get());
                    } catch (RuntimeException thrown) {
                        got = "throws " + thrown.getClass().getSimpleName();
                    }
                    ROWS.add(new String[] {line, got, due});
                }

                public static List<String[]> rows() {
            """;
    private static final String FOOT = """
                    return ROWS;
                }
            }
            """;
    // What a line sets, if it does, its call, and the answer that its comment tells, up to a colon.
    private static final Pattern SHOWN = Pattern.compile("(?:\\w+ (\\w+) = )?(.*); +// ([^:]*)(?::.*)?");

    private static final Checks CHECKS = new Checks();

    private ReadmeTest() {
    }

    public static void main(String[] args) throws IOException, ReflectiveOperationException {
        List<String> readme = Files.readAllLines(Path.of(README));
        List<String> code = codeOf(readme);
        for (String[] row : rowsOf(programOf(code))) {
            CHECKS.same(README + ": " + row[0], row[1], row[2]);
        }
        showsEveryCall(String.join("\n", code));
        namesEveryTest(String.join("\n", readme));
        CHECKS.end("ReadmeTest");
    }

    private static List<String> codeOf(List<String> readme) {
        List<String> code = new ArrayList<>();
        boolean inCode = false;
        for (String line : readme) {
            if (line.startsWith("```")) {
                inCode = line.equals("```java");
            } else if (inCode) {
                code.add(line);
            }
        }
        return code;
    }

    private static String programOf(List<String> code) {
        StringBuilder program = new StringBuilder(HEAD);
        for (String line : code) {
            Matcher shown = SHOWN.matcher(line);
            if (!shown.matches()) {
                CHECKS.same("a comment that is no answer: " + line, line.contains("//"), false);
                program.append(line).append('\n');
                continue;
            }
            String name = shown.group(1);
            if (name != null) {
                program.append(line).append('\n');
            }
            program.append("row(").append(quoted(line)).append(", () -> ").append(name == null ? shown.group(2) : name)
                    .append(", ").append(quoted(shown.group(3).strip())).append(");\n");
        }
        return program.append(FOOT).toString();
    }

    private static String quoted(String text) {
        return '"' + text.replace("\\", "\\\\").replace("\"", "\\\"") + '"';
    }

    @SuppressWarnings("unchecked")
    private static List<String[]> rowsOf(String program) throws IOException, ReflectiveOperationException {
        Path directory = Files.createTempDirectory("readme");
        try {
            Path source = Files.writeString(directory.resolve(PROGRAM + ".java"), program);
            JavaCompiler compiler = ToolProvider.getSystemJavaCompiler();
            int refused = compiler.run(null, null, null, "-cp", System.getProperty("java.class.path"), "-d",
                    directory.toString(), source.toString());
            CHECKS.same(README + ": the compiler's exit code", refused, 0);
            if (refused != 0) {
                return List.of();
            }
            try (URLClassLoader loader = new URLClassLoader(new URL[] {directory.toUri().toURL()})) {
                return (List<String[]>) loader.loadClass(PROGRAM).getMethod("rows").invoke(null);
            }
        } finally {
            delete(directory);
        }
    }

    private static void delete(Path directory) throws IOException {
        try (Stream<Path> inside = Files.walk(directory)) {
            for (Path path : inside.sorted(Comparator.reverseOrder()).toList()) {
                Files.delete(path);
            }
        }
    }

    private static void showsEveryCall(String code) {
        Set<String> names = new TreeSet<>();
        for (Method method : ColourOffice.class.getMethods()) {
            if (method.getDeclaringClass() == ColourOffice.class) {
                names.add(method.getName());
            }
        }
        CHECKS.same("calls of the face", names.size(), 56);
        for (String name : names) {
            CHECKS.same(README + " shows " + name, code.contains("office." + name + "("), true);
        }
    }

    private static void namesEveryTest(String readme) throws IOException {
        try (Stream<Path> files = Files.list(Path.of(TESTS))) {
            for (Path file : files.toList()) {
                String name = file.getFileName().toString().replace(".java", "");
                CHECKS.same(README + " names " + name, readme.contains("`" + name + "`"), true);
            }
        }
    }
}
