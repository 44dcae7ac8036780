import java.io.IOException;
import java.lang.reflect.Method;
import java.lang.reflect.Modifier;
import java.net.URL;
import java.net.URLClassLoader;
import java.nio.file.Files;
import java.nio.file.Path;
import java.util.ArrayList;
import java.util.List;
import java.util.regex.Matcher;
import java.util.regex.Pattern;
import java.util.stream.Stream;
import javax.tools.ToolProvider;

/** What README.md says is so: its example is compiled and carried out, and it leaves out no call and no test. */
public final class TrackMarketReadme {
    private static final Path README = Path.of("README.md");
    private static final Path TESTS = Path.of("src/test/java");
    private static final Pattern EXAMPLE = Pattern.compile("(?s)```java\n(.*?)```");
    /** A call with its answer at the head of the comment, such as "market.total();   // 8: its worth". */
    private static final Pattern ANSWERED =
        Pattern.compile("(market\\.\\w+\\(.*?\\));\\s*// (-?\\d+|true|false)(:.*)?");

    private static int right = 0;
    private static int wrong = 0;

    public static void main(String[] args) throws IOException, ReflectiveOperationException {
        String readme = Files.readString(README);
        example(readme);
        everyCallIsNamed(readme);
        everyTestIsNamed(readme);
        System.out.println(right + " passed, " + wrong + " failed");
        if (wrong != 0) {
            System.exit(1);
        }
    }

    private static void check(boolean holds, String what) {
        if (holds) {
            right++;
        } else {
            wrong++;
            System.out.println(what);
        }
    }

    private static void example(String readme) throws IOException, ReflectiveOperationException {
        Matcher block = EXAMPLE.matcher(readme);
        check(block.find(), "there is no example");
        List<String> calls = new ArrayList<>();
        List<String> due = new ArrayList<>();
        StringBuilder body = new StringBuilder();
        for (String line : block.group(1).split("\n")) {
            Matcher answered = ANSWERED.matcher(line);
            if (answered.matches()) {
                calls.add(answered.group(1));
                due.add(answered.group(2));
                body.append("answers.add(String.valueOf(").append(answered.group(1)).append("));\n");
            } else {
                check(!line.startsWith("market."), "a call without its answer: " + line);
                body.append(line).append('\n');
            }
        }
        check(!block.find(), "there is a second example, which nothing tries");
        List<?> got = carriedOut(body.toString());
        check(got.size() == due.size() && !due.isEmpty(), "the example gave " + got.size() + " answers");
        for (int i = 0; i < got.size(); i++) {
            check(got.get(i).equals(due.get(i)),
                calls.get(i) + " answered " + got.get(i) + ", the README says " + due.get(i));
        }
    }

    private static List<?> carriedOut(String body) throws IOException, ReflectiveOperationException {
        Path folder = Files.createTempDirectory("readme");
        Path source = folder.resolve("Example.java");
        try {
            Files.writeString(source, "public final class Example {\n"
                + "public static java.util.List<String> answers() {\n"
                + "java.util.List<String> answers = new java.util.ArrayList<>();\n" + body + "return answers;\n}\n}\n");
            int code = ToolProvider.getSystemJavaCompiler().run(null, null, null, "-cp",
                System.getProperty("java.class.path"), "-d", folder.toString(), source.toString());
            check(code == 0, "the example does not compile");
            return code == 0 ? answersOf(folder) : List.of();
        } finally {
            Files.deleteIfExists(folder.resolve("Example.class"));
            Files.delete(source);
            Files.delete(folder);
        }
    }

    private static List<?> answersOf(Path folder) throws IOException, ReflectiveOperationException {
        try (URLClassLoader loader = new URLClassLoader(new URL[] {folder.toUri().toURL()})) {
            return (List<?>) loader.loadClass("Example").getMethod("answers").invoke(null);
        }
    }

    private static void everyCallIsNamed(String readme) {
        for (Method method : TrackMarket.class.getDeclaredMethods()) {
            if (Modifier.isPublic(method.getModifiers())) {
                String name = method.getName();
                check(readme.contains("| `" + name + "("), "the README does not tell what " + name + " answers");
                check(readme.contains("market." + name + "("), "the example does not call " + name);
            }
        }
        for (String word : List.of("new TrackMarket(", "`BAD` (-1)", "`FULL` (-2)", "`NONE` (-1)", "\n.ci/run\n")) {
            check(readme.contains(word), "the README does not name " + word);
        }
    }

    private static void everyTestIsNamed(String readme) throws IOException {
        try (Stream<Path> files = Files.list(TESTS)) {
            for (Path file : files.toList()) {
                String name = file.getFileName().toString().replace(".java", "");
                check(readme.contains("- `" + name + "`: "), "the README does not name the test " + name);
            }
        }
    }
}
