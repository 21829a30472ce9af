import java.io.IOException;
import java.lang.reflect.Method;
import java.net.URL;
import java.net.URLClassLoader;
import java.nio.file.Files;
import java.nio.file.Path;
import java.util.ArrayList;
import java.util.List;
import java.util.regex.Matcher;
import java.util.regex.Pattern;
import java.util.stream.Stream;
import javax.tools.ToolProvider;

/** README.md: its examples compile and answer what stands behind them; it names every call and every test. */
public final class ReadmeTest extends Checks {
    private static final Pattern EXAMPLE = Pattern.compile("(?s)```java\n(.*?)```");
    private static final Pattern ANSWERED =
            Pattern.compile("(?m)^(?:int (\\w+) = )?(hunt\\.\\w+\\(.*?\\)); +// (-?\\d+): .*$");

    public static void main(String[] args) throws Exception {
        String readme = Files.readString(Path.of("README.md"));
        Matcher examples = EXAMPLE.matcher(readme);
        int found = 0;
        while (examples.find()) {
            found++;
            tryOut("Example" + found, examples.group(1));
        }
        due("examples", found, 2);
        namesCalls(readme);
        namesTests(readme);
        finish();
    }

    /** Makes a class of an example, in which every call with an answer behind it becomes a pair of got and want. */
    private static void tryOut(String name, String example) throws Exception {
        List<String> calls = new ArrayList<>();
        StringBuilder body = new StringBuilder();
        Matcher answered = ANSWERED.matcher(example);
        while (answered.find()) {
            String kept = answered.group(1) == null ? "got" + calls.size() : answered.group(1);
            calls.add(name + ", " + answered.group(2));
            answered.appendReplacement(body, Matcher.quoteReplacement("long " + kept + "_ = " + answered.group(2)
                    + "; int " + kept + " = (int) " + kept + "_; pairs.add(new long[] {" + kept + "_, "
                    + answered.group(3) + "L});"));
        }
        answered.appendTail(body);
        due(name + ", lines with an answer that were not understood", count(body.toString(), "//"), 0);
        List<?> pairs = run(name, body.toString());
        due(name + ", calls with an answer", pairs.size(), calls.size());
        for (int i = 0; i < pairs.size() && i < calls.size(); i++) {
            long[] pair = (long[]) pairs.get(i);
            due(calls.get(i), pair[0], pair[1]);
        }
    }

    private static List<?> run(String name, String body) throws Exception {
        Path dir = Files.createTempDirectory("readme");
        Path file = dir.resolve(name + ".java");
        try {
            Files.writeString(file, "public final class " + name + " {\n    public static java.util.List<long[]> run() {\n"
                    + "java.util.List<long[]> pairs = new java.util.ArrayList<>();\n" + body + "return pairs;\n    }\n}\n");
            int failed = ToolProvider.getSystemJavaCompiler().run(null, null, null, "-d", dir.toString(), "-cp",
                    System.getProperty("java.class.path"), file.toString());
            due(name + " does not compile", failed, 0);
            if (failed != 0) {
                return List.of();
            }
            try (URLClassLoader loader = new URLClassLoader(new URL[] {dir.toUri().toURL()})) {
                return (List<?>) loader.loadClass(name).getMethod("run").invoke(null);
            }
        } finally {
            Files.deleteIfExists(dir.resolve(name + ".class"));
            Files.deleteIfExists(file);
            Files.deleteIfExists(dir);
        }
    }

    private static int count(String text, String part) {
        return text.split(Pattern.quote(part), -1).length - 1;
    }

    private static void namesCalls(String readme) {
        int calls = 0;
        for (Method method : ShaftHunt.class.getMethods()) {
            if (method.getDeclaringClass() == ShaftHunt.class) {
                calls++;
                Matcher row = Pattern.compile("(?m)^\\| `" + method.getName() + "\\(([^)]*)\\)`").matcher(readme);
                boolean told = row.find();
                due("a row for " + method.getName(), told ? 1 : 0, 1);
                if (told) {
                    int names = row.group(1).isEmpty() ? 0 : count(row.group(1), ",") + 1;
                    due("the numbers of " + method.getName(), names, method.getParameterCount());
                }
            }
        }
        due("calls of the face", calls, 23);
    }

    private static void namesTests(String readme) throws IOException {
        try (Stream<Path> files = Files.list(Path.of("src/test/java"))) {
            for (Path file : files.toList()) {
                String name = file.getFileName().toString().replace(".java", "");
                due("tells of " + name, count(readme, "- `" + name + "`"), 1);
            }
        }
        due("tells of .ci/run", readme.contains("`.ci/run`") ? 1 : 0, 1);
    }
}
