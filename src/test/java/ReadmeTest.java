import java.io.IOException;
import java.lang.reflect.InvocationTargetException;
import java.lang.reflect.Method;
import java.net.URL;
import java.net.URLClassLoader;
import java.nio.file.Files;
import java.nio.file.Path;
import java.util.ArrayList;
import java.util.List;
import java.util.Set;
import java.util.TreeSet;
import java.util.regex.Matcher;
import java.util.regex.Pattern;
import java.util.stream.Collectors;
import java.util.stream.Stream;
import javax.tools.ToolProvider;

/** README.md: its example is compiled and run, the names on it must be there, and no test may be missing. */
public final class ReadmeTest {
    private static final Path README = Path.of("README.md");
    private static final Pattern EXAMPLE = Pattern.compile("(?s)```java\n(.*?)```");
    /** A call and what it answers: a number, a byte as a sign, or a constant. */
    private static final Pattern ANSWERED = Pattern.compile("^(terms\\..*\\));\\s*// (-?\\d+|'.'|FlexTerms\\.\\w+): .*$");
    private static int wrong = 0;
    private static int compared = 0;

    public static void main(String[] args) throws IOException, ReflectiveOperationException {
        String page = Files.readString(README);
        exampleAnswersAsItSays(page);
        testsAreAllNamed(page);
        pathsAreThere(page);
        callsAreAllNamed(page);
        System.out.println(wrong == 0 ? compared + " answers of the example, the page is true" : wrong + " things are not as the page says");
        if (wrong != 0) {
            System.exit(1);
        }
    }

    private static void must(boolean holds, String what) {
        if (!holds) {
            wrong++;
            System.out.println(what);
        }
    }

    /** The compiled example calls this. */
    public static void due(String line, long got, long want) {
        compared++;
        must(got == want, "the page says: " + line + ", but the answer was " + got);
    }

    private static void exampleAnswersAsItSays(String page) throws IOException, ReflectiveOperationException {
        Matcher example = EXAMPLE.matcher(page);
        int many = 0;
        while (example.find()) {
            many++;
            run("ReadmeExample" + many, example.group(1));
        }
        must(many > 0 && compared > 0, "the page has no example");
    }

    private static void run(String name, String example) throws IOException, ReflectiveOperationException {
        Path made = Files.createTempDirectory("readme");
        Path source = made.resolve(name + ".java");
        Files.writeString(source, "public final class " + name + " {\n    public static void run() {\n" + compared(example) + "    }\n}\n");
        int failed = ToolProvider.getSystemJavaCompiler().run(null, null, null,
            "-cp", System.getProperty("java.class.path"), "-d", made.toString(), source.toString());
        must(failed == 0, "the example can not be compiled");
        if (failed == 0) {
            try (URLClassLoader loader = new URLClassLoader(new URL[] {made.toUri().toURL()}, ReadmeTest.class.getClassLoader())) {
                loader.loadClass(name).getMethod("run").invoke(null);
            } catch (InvocationTargetException thrown) {
                must(false, "the example threw " + thrown.getCause());
            }
        }
        try (Stream<Path> files = Files.list(made)) {
            for (Path file : files.collect(Collectors.toList())) {
                Files.delete(file);
            }
        }
        Files.delete(made);
    }

    private static String compared(String example) {
        StringBuilder out = new StringBuilder();
        for (String line : example.split("\n")) {
            Matcher answered = ANSWERED.matcher(line);
            if (answered.matches()) {
                String told = line.replace("\\", "\\\\").replace("\"", "\\\"");
                out.append("ReadmeTest.due(\"").append(told).append("\", ").append(answered.group(1)).append(", ")
                    .append(answered.group(2)).append(");\n");
            } else {
                must(!line.contains("//"), "the page tells no answer that can be compared: " + line);
                out.append(line).append('\n');
            }
        }
        return out.toString();
    }

    private static Set<String> found(String pattern, String page) {
        Set<String> all = new TreeSet<>();
        Matcher matcher = Pattern.compile(pattern).matcher(page);
        while (matcher.find()) {
            all.add(matcher.group(1));
        }
        return all;
    }

    private static Set<String> namesIn(String directory) throws IOException {
        try (Stream<Path> files = Files.list(Path.of(directory))) {
            return files.map(file -> file.getFileName().toString().replace(".java", "")).collect(Collectors.toCollection(TreeSet::new));
        }
    }

    private static void testsAreAllNamed(String page) throws IOException {
        Set<String> there = namesIn("src/test/java");
        must(found("`(\\w+Test)`", page).equals(there), "the tests are " + there);
        for (String shared : namesIn("src/test/support")) {
            must(page.contains("`" + shared + "`"), "the page does not tell of " + shared);
        }
    }

    private static void pathsAreThere(String page) {
        for (String path : found("((?<![\\w/])(?:src|\\.ci)/[\\w/.]*\\w)", page)) {
            must(Files.exists(Path.of(path)), "there is no " + path);
        }
        must(Files.isExecutable(Path.of(".ci/run")), ".ci/run can not be run");
    }

    private static void callsAreAllNamed(String page) {
        List<String> calls = new ArrayList<>();
        for (Method method : FlexTerms.class.getMethods()) {
            if (method.getDeclaringClass() == FlexTerms.class) {
                calls.add(method.getName());
            }
        }
        String table = String.join("\n", found("(?m)^\\| (`[^|]*) \\|", page));
        for (String call : calls) {
            must(table.contains("`" + call + "`"), "the page's table does not tell of " + call);
        }
        Set<String> named = found("`(\\w+)`", table);
        must(calls.containsAll(named), "the page's table tells of a call that is not there: " + named);
    }
}
