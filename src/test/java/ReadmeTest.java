import java.lang.reflect.Method;
import java.net.URL;
import java.net.URLClassLoader;
import java.nio.file.Files;
import java.nio.file.Path;
import java.util.ArrayList;
import java.util.List;
import java.util.Set;
import java.util.TreeSet;
import java.util.regex.Matcher;
import java.util.regex.Pattern;
import java.util.stream.Stream;
import javax.tools.ToolProvider;

/** Whether README.md is true of the project: its examples are run, its lists compared with what there is. */
public final class ReadmeTest {
    private static final Pattern BLOCK = Pattern.compile("(?s)```java\n(.*?)```");
    private static final Pattern CALL = Pattern.compile("(maker\\.\\w+\\(.*\\));  // (-?\\d+)(: .*)?");
    private static final Check CHECK = new Check();

    private ReadmeTest() {
    }

    /** The examples as a program that answers the answers of all its calls. */
    private static String program(List<String> rows) {
        StringBuilder out = new StringBuilder("public final class Examples {\n");
        out.append("public static java.util.List<Long> answers() {\n");
        out.append("java.util.List<Long> answers = new java.util.ArrayList<>();\n");
        for (String row : rows) {
            Matcher call = CALL.matcher(row);
            out.append(call.matches() ? "answers.add((long) " + call.group(1) + ");" : row).append('\n');
        }
        return out.append("return answers;\n}\n}\n").toString();
    }

    private static List<?> run(String program) throws Exception {
        Path place = Files.createDirectories(Path.of("build", "readme"));
        Path file = place.resolve("Examples.java");
        Files.writeString(file, program);
        int failed = ToolProvider.getSystemJavaCompiler().run(null, null, null, "-cp",
                System.getProperty("java.class.path"), "-d", place.toString(), file.toString());
        CHECK.due("compiling the examples", failed, 0);
        if (failed != 0) {
            return List.of();
        }
        try (URLClassLoader loader = new URLClassLoader(new URL[] {place.toUri().toURL()})) {
            Method answers = loader.loadClass("Examples").getMethod("answers");
            return (List<?>) answers.invoke(null);
        }
    }

    private static void examples(String readme) throws Exception {
        List<String> rows = new ArrayList<>();
        Matcher block = BLOCK.matcher(readme);
        while (block.find()) {
            rows.addAll(List.of(block.group(1).split("\n")));
        }
        List<String> calls = new ArrayList<>();
        List<Long> due = new ArrayList<>();
        for (String row : rows) {
            Matcher call = CALL.matcher(row);
            if (call.matches()) {
                calls.add(call.group(1));
                due.add(Long.parseLong(call.group(2)));
            }
            CHECK.holds("a call has its answer behind it: " + row, call.matches() || !row.startsWith("maker."));
        }
        CHECK.holds("there are examples", calls.size() > 20);
        List<?> got = run(program(rows));
        CHECK.due("answers", got.size(), due.size());
        for (int i = 0; i < got.size() && i < due.size(); i++) {
            CHECK.due("README: " + calls.get(i), (Long) got.get(i), due.get(i));
        }
    }

    private static Set<String> found(String readme, String pattern) {
        Set<String> names = new TreeSet<>();
        Matcher matcher = Pattern.compile(pattern).matcher(readme);
        while (matcher.find()) {
            names.add(matcher.group(1));
        }
        return names;
    }

    private static void lists(String readme) throws Exception {
        Set<String> classes = new TreeSet<>();
        for (Class<?> type : SentenceMaker.class.getDeclaredClasses()) {
            classes.add(type.getSimpleName());
        }
        CHECK.holds("the table has the classes inside: " + classes,
                found(readme, "\n\\| `(\\w+)` \\|").equals(classes));
        Set<String> files = new TreeSet<>();
        try (Stream<Path> all = Files.list(Path.of("src/test/java"))) {
            all.forEach(file -> files.add(file.getFileName().toString().replace(".java", "")));
        }
        Set<String> tests = new TreeSet<>(files);
        tests.removeIf(name -> !name.endsWith("Test"));
        CHECK.holds("the list has the tests: " + tests, found(readme, "\n- `(\\w+)`: ").equals(tests));
        for (String file : files) {
            CHECK.holds("it names " + file, readme.contains("`" + file + "`"));
        }
        CHECK.holds(".ci/run can be run", Files.isExecutable(Path.of(".ci/run")));
    }

    public static void main(String[] args) throws Exception {
        String readme = Files.readString(Path.of("README.md"));
        examples(readme);
        lists(readme);
        CHECK.close("ReadmeTest");
    }
}
