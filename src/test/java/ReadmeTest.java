import java.io.IOException;
import java.lang.invoke.MethodHandles;
import java.nio.charset.StandardCharsets;
import java.nio.file.Files;
import java.nio.file.Path;
import java.util.Set;
import java.util.TreeSet;
import java.util.regex.Matcher;
import java.util.regex.Pattern;
import java.util.stream.Collectors;
import java.util.stream.Stream;
import javax.tools.ToolProvider;

/** What README.md says: its examples answer so, and it leaves out no call, constant or test. */
final class ReadmeTest {
    private static final Path README = Path.of("README.md");
    private static final Path TESTS = Path.of("src/test/java");
    private static final Pattern EXAMPLE = Pattern.compile("(?s)```java\n(.*?)```");
    private static final Pattern ANSWERED = Pattern.compile("(?m)^(x\\..*);\\s+// (-?\\d+)\\b.*$");

    public static void main(String[] args) throws IOException, ReflectiveOperationException {
        String page = Files.readString(README, StandardCharsets.UTF_8);
        calls(page);
        constants(page);
        tests(page);
        examples(page);
        Due.finish("ReadmeTest");
    }

    private static void calls(String page) throws IOException {
        Set<String> due = new TreeSet<>();
        Set<String> actions = new TreeSet<>();
        Document document = new Document();
        for (int promise = 2; promise <= Document.PROMISES; promise++) {
            String call = document.callOf(promise);
            due.add(call);
            if (document.isAction(promise)) {
                actions.add(call);
            }
        }
        Due.that("calls of the document", due.size(), Document.PROMISES - 1);
        Due.holds("all calls", found("(?m)^\\| `(\\w+\\([^`]*\\))`", page).equals(due));
        Due.holds("the actions alone are marked", found("(?m)^\\| `(\\w+\\([^`]*\\))` \\*", page).equals(actions));
    }

    private static Set<String> found(String pattern, String page) {
        return Pattern.compile(pattern).matcher(page).results().map(some -> some.group(1))
            .collect(Collectors.toCollection(TreeSet::new));
    }

    private static void constants(String page) throws IOException {
        new Document().constants().forEach((name, value) ->
            Due.holds(name, page.contains("| `" + name + "` | " + value + " |")));
    }

    private static void tests(String page) throws IOException {
        Set<String> there;
        try (Stream<Path> files = Files.list(TESTS)) {
            there = files.map(file -> file.getFileName().toString()).filter(name -> name.endsWith("Test.java"))
                .map(name -> name.substring(0, name.indexOf('.'))).collect(Collectors.toCollection(TreeSet::new));
        }
        Due.holds("the tests that are there: " + there, found("(?m)^\\| `(\\w+Test)` \\|", page).equals(there));
    }

    private static void examples(String page) throws IOException, ReflectiveOperationException {
        StringBuilder lines = new StringBuilder();
        Matcher example = EXAMPLE.matcher(page);
        while (example.find()) {
            lines.append(example.group(1));
        }
        long calls = lines.toString().lines().filter(line -> line.startsWith("x.")).count();
        Due.holds("there are examples", calls > 0);
        Due.that("examples with an answer", (int) ANSWERED.matcher(lines).results().count(), (int) calls);
        String compared = ANSWERED.matcher(lines).replaceAll(line -> Matcher.quoteReplacement(
            "Due.that(\"README: " + line.group(1) + "\", " + line.group(1) + ", " + line.group(2) + ");"));
        run("final class ReadmeExample { static void run() {\n" + compared + "} }\n");
    }

    /** Compiles a class into a place of its own, and calls it beside the classes of this test. */
    private static void run(String program) throws IOException, ReflectiveOperationException {
        Path place = Files.createTempDirectory("readme");
        Path source = place.resolve("ReadmeExample.java");
        Path made = place.resolve("ReadmeExample.class");
        try {
            Files.writeString(source, program);
            String classes = System.getProperty("java.class.path");
            int refused = ToolProvider.getSystemJavaCompiler().run(null, null, null, "-cp", classes, "-d", place.toString(),
                source.toString());
            Due.that("the examples compile", refused, 0);
            if (refused == 0) {
                Class<?> example = MethodHandles.lookup().defineClass(Files.readAllBytes(made));
                example.getDeclaredMethod("run").invoke(null);
            }
        } finally {
            Files.deleteIfExists(source);
            Files.deleteIfExists(made);
            Files.delete(place);
        }
    }
}
