import java.io.IOException;
import java.io.UncheckedIOException;
import java.lang.reflect.Method;
import java.lang.reflect.Modifier;
import java.net.URL;
import java.net.URLClassLoader;
import java.nio.file.Files;
import java.nio.file.Path;
import java.util.ArrayList;
import java.util.Arrays;
import java.util.Comparator;
import java.util.HashMap;
import java.util.LinkedHashMap;
import java.util.List;
import java.util.Map;
import java.util.Set;
import java.util.TreeSet;
import java.util.regex.Matcher;
import java.util.regex.Pattern;
import java.util.stream.Stream;
import javax.tools.ToolProvider;

/** That README.md tells the truth: its examples, and its tables of calls, classes and tests. */
public final class ReadmeTest {
    private static final Pattern TOLD = Pattern.compile("\\w+ (\\w+) = .*; +// (-?\\w+).*");
    private static final Pattern ROW_OF_CALL = Pattern.compile("\\| `(\\w+)\\(([^)]*)\\)` \\|.*");
    private static final Pattern NAMED_TEST = Pattern.compile("`(\\w+Test)`");

    private final Expect expect = new Expect();
    private final List<String> lines;

    private ReadmeTest(List<String> lines) {
        this.lines = lines;
    }

    public static void main(String[] args) throws Exception {
        ReadmeTest test = new ReadmeTest(Files.readAllLines(Path.of("README.md")));
        test.examples();
        test.calls();
        test.classesInside();
        test.tests();
        test.expect.end();
    }

    // ---------------------------------------------------------------- examples

    private void examples() throws Exception {
        List<String> code = codeLines();
        Map<String, String> told = new LinkedHashMap<>();
        for (String line : code) {
            Matcher matcher = TOLD.matcher(line);
            if (matcher.matches()) {
                told.put(matcher.group(1), matcher.group(2));
            }
        }
        expect.same("some answers are told", true, () -> told.size() >= 10);
        Map<String, Object> answers = played(code, told.keySet());
        for (Map.Entry<String, String> one : told.entrySet()) {
            expect.same("example: " + one.getKey(), one.getValue(), () -> answers.get(one.getKey()));
        }
    }

    private List<String> codeLines() {
        List<String> code = new ArrayList<>();
        boolean inside = false;
        for (String line : lines) {
            if (line.startsWith("```")) {
                inside = line.equals("```java");
            } else if (inside) {
                code.add(line);
            }
        }
        return code;
    }

    /** The examples are compiled as they stand, so that no second writing of them can differ. */
    private static Map<String, Object> played(List<String> code, Set<String> names) throws Exception {
        StringBuilder source = new StringBuilder("public final class Examples {\n");
        source.append("public static void play(java.util.Map<String, Object> answers) {\n");
        source.append(String.join("\n", code)).append('\n');
        for (String name : names) {
            source.append("answers.put(\"").append(name).append("\", ").append(name).append(");\n");
        }
        source.append("}\n}\n");
        Path directory = Files.createTempDirectory("readme");
        try {
            Path file = Files.writeString(directory.resolve("Examples.java"), source);
            int failed = ToolProvider.getSystemJavaCompiler().run(null, null, null, "-cp",
                    System.getProperty("java.class.path"), "-d", directory.toString(), file.toString());
            Map<String, Object> answers = new HashMap<>();
            if (failed == 0) {
                try (URLClassLoader loader = new URLClassLoader(new URL[] {directory.toUri().toURL()})) {
                    loader.loadClass("Examples").getMethod("play", Map.class).invoke(null, answers);
                }
            }
            return answers;
        } finally {
            delete(directory);
        }
    }

    private static void delete(Path directory) throws IOException {
        try (Stream<Path> all = Files.walk(directory)) {
            all.sorted(Comparator.reverseOrder()).forEach(path -> {
                try {
                    Files.delete(path);
                } catch (IOException e) {
                    throw new UncheckedIOException(e);
                }
            });
        }
    }

    // ---------------------------------------------------------------- tables

    private void calls() {
        Map<String, String> rows = new LinkedHashMap<>();
        for (String line : lines) {
            Matcher matcher = ROW_OF_CALL.matcher(line);
            if (matcher.matches()) {
                rows.put(matcher.group(1), line);
            }
        }
        Set<String> due = new TreeSet<>();
        for (Method method : DictionaryHouse.class.getDeclaredMethods()) {
            if (Modifier.isPublic(method.getModifiers())) {
                due.add(method.getName());
                lookAtRow(method, rows.getOrDefault(method.getName(), ""));
            }
        }
        expect.same("a row for each call", due, () -> new TreeSet<>(rows.keySet()));
    }

    private void lookAtRow(Method method, String row) {
        String name = method.getName();
        String[] cells = row.split(" \\| ");
        expect.same("cells of " + name, 4, () -> cells.length);
        if (cells.length != 4) {
            return;
        }
        expect.same("arguments of " + name, method.getParameterCount(), () -> cells[0].split(",").length);
        List<Class<?>> thrown = Arrays.asList(method.getExceptionTypes());
        expect.same("wrong arguments of " + name, thrown.contains(IllegalArgumentException.class),
                () -> !cells[2].equals("-"));
        expect.same("wrong states of " + name, thrown.contains(IllegalStateException.class),
                () -> !cells[3].equals("- |"));
    }

    private void classesInside() {
        String all = String.join("\n", lines);
        for (Class<?> inside : DictionaryHouse.class.getDeclaredClasses()) {
            String name = inside.getSimpleName();
            expect.same("tells of " + name, true, () -> all.contains("`" + name + "`"));
        }
    }

    private void tests() throws IOException {
        Set<String> due = new TreeSet<>();
        try (Stream<Path> all = Files.list(Path.of("src/test/java"))) {
            all.map(path -> path.getFileName().toString()).filter(name -> name.endsWith("Test.java"))
                    .forEach(name -> due.add(name.replace(".java", "")));
        }
        Set<String> named = new TreeSet<>();
        for (String line : lines) {
            Matcher matcher = NAMED_TEST.matcher(line);
            while (line.startsWith("|") && matcher.find()) {
                named.add(matcher.group(1));
            }
        }
        expect.same("the tests", due, () -> named);
    }
}
