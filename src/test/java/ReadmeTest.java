import java.io.IOException;
import java.lang.reflect.Method;
import java.lang.reflect.Modifier;
import java.net.URL;
import java.net.URLClassLoader;
import java.nio.charset.StandardCharsets;
import java.nio.file.Files;
import java.nio.file.Path;
import java.util.List;
import java.util.regex.Matcher;
import java.util.regex.Pattern;
import java.util.stream.Collectors;
import java.util.stream.Stream;
import javax.tools.JavaCompiler;
import javax.tools.StandardJavaFileManager;
import javax.tools.ToolProvider;

/** README.md: its Java is compiled and run, each call must answer what stands behind it, and no call or test is left out. */
public final class ReadmeTest {
    private static final Path README = Path.of("README.md");
    private static final Path TESTS = Path.of("src/test/java");
    private static final Path BUILD = Path.of("build/readme");
    private static final Pattern BLOCK = Pattern.compile("(?s)```java\n(.*?)```");
    private static final Pattern CALL = Pattern.compile("(int \\w+ = )?(.*);\\s+// (-?\\w+)(:.*)?");

    private static final Checks c = new Checks();

    public static void main(String[] args) throws IOException, ReflectiveOperationException {
        String readme = Files.readString(README, StandardCharsets.UTF_8);
        List<Row> rows = run(programOf(readme));
        long answers = readme.lines().filter(line -> line.matches(".*; +// .*")).count();
        c.due("calls with an answer in README.md", rows.size(), (int) answers);
        for (Row row : rows) {
            c.due("README.md: " + row.call(), row.got(), row.due());
        }
        for (Method method : StrikeBallots.class.getDeclaredMethods()) {
            if (Modifier.isPublic(method.getModifiers())) {
                named(readme, method.getName());
            }
        }
        for (String test : tests()) {
            named(readme, test);
        }
        c.end();
    }

    private record Row(String call, int got, int due) {
    }

    private static void named(String readme, String word) {
        c.holds("README.md does not name " + word, readme.contains("`" + word + "`"));
    }

    private static List<String> tests() throws IOException {
        try (Stream<Path> files = Files.list(TESTS)) {
            return files.map(file -> file.getFileName().toString()).filter(name -> name.endsWith("Test.java"))
                    .map(name -> name.replace(".java", "")).collect(Collectors.toList());
        }
    }

    /** A block of methods goes in as it is; of the others each line with an answer is noted. */
    private static String programOf(String readme) {
        StringBuilder methods = new StringBuilder();
        StringBuilder lines = new StringBuilder();
        Matcher blocks = BLOCK.matcher(readme);
        while (blocks.find()) {
            if (blocks.group(1).startsWith("static ")) {
                methods.append(blocks.group(1));
            } else {
                blocks.group(1).lines().forEach(line -> lines.append(noted(line)).append('\n'));
            }
        }
        return "public final class ReadmeRun {\n"
                + "private static final java.util.List<Object[]> rows = new java.util.ArrayList<>();\n"
                + "private static int noted(String call, int got, int due) {\n"
                + "rows.add(new Object[] {call, got, due});\nreturn got;\n}\n"
                + "public static java.util.List<Object[]> rows() {\n" + lines + "return rows;\n}\n" + methods + "}\n";
    }

    private static String noted(String line) {
        Matcher call = CALL.matcher(line);
        if (!call.matches()) {
            return line;
        }
        String words = call.group(2).replace("\"", "\\\"");
        String due = call.group(3).matches("[A-Z]+") ? "StrikeBallots." + call.group(3) : call.group(3);
        String head = call.group(1) == null ? "" : call.group(1);
        return head + "noted(\"" + words + "\", " + call.group(2) + ", " + due + ");";
    }

    private static List<Row> run(String program) throws IOException, ReflectiveOperationException {
        Files.createDirectories(BUILD);
        Path source = BUILD.resolve("ReadmeRun.java");
        Files.writeString(source, program);
        JavaCompiler compiler = ToolProvider.getSystemJavaCompiler();
        try (StandardJavaFileManager files = compiler.getStandardFileManager(null, null, null)) {
            List<String> options = List.of("-d", BUILD.toString(), "-cp", System.getProperty("java.class.path"));
            if (!compiler.getTask(null, files, null, options, null, files.getJavaFileObjects(source)).call()) {
                c.holds("the Java of README.md can't be compiled", false);
                return List.of();
            }
        }
        try (URLClassLoader loader = new URLClassLoader(new URL[] {BUILD.toUri().toURL()})) {
            List<?> rows = (List<?>) loader.loadClass("ReadmeRun").getMethod("rows").invoke(null);
            return rows.stream().map(Object[].class::cast)
                    .map(row -> new Row((String) row[0], (Integer) row[1], (Integer) row[2])).collect(Collectors.toList());
        }
    }
}
