import java.io.IOException;
import java.lang.reflect.Method;
import java.lang.reflect.Modifier;
import java.net.URL;
import java.net.URLClassLoader;
import java.nio.file.Files;
import java.nio.file.Path;
import java.util.TreeSet;
import java.util.regex.Matcher;
import java.util.regex.Pattern;
import java.util.stream.Stream;
import javax.tools.ToolProvider;

/** What README.md tells is so: its examples answer as they say there, and it names every call and every test. */
public final class ReadmeTest {
    private static final Check check = new Check("ReadmeTest");
    private static final Pattern ANSWERED = Pattern.compile("(?m)^(s\\.\\w+\\(.*?\\));\\s+// ([-\\w]+)(?=:).*$");

    public static void main(String[] args) throws Exception {
        String readme = Files.readString(Path.of("README.md"));
        runExamples(readme);
        nameEveryCall(readme);
        nameEveryTest(readme);
        check.end();
    }

    /** The examples call this with the answers that README.md tells. */
    public static void due(String call, int got, int want) {
        check.due(call, got, want);
    }

    private static void runExamples(String readme) throws Exception {
        Matcher blocks = Pattern.compile("(?s)```java\\n(.*?)```").matcher(readme);
        int answers = 0;
        int examples = 0;
        StringBuilder body = new StringBuilder();
        while (blocks.find()) {
            Matcher calls = ANSWERED.matcher(blocks.group(1));
            answers += (int) calls.results().count();
            examples += (int) blocks.group(1).lines().filter(line -> line.startsWith("s.")).count();
            body.append("{\n").append(calls.replaceAll(
                r -> Matcher.quoteReplacement("ReadmeTest.due(\"" + r.group(1) + "\", " + r.group(1) + ", " + constant(r.group(2)) + ");")))
                .append("}\n");
        }
        check.holds("there are examples", answers > 0);
        check.due("examples with an answer", answers, examples);
        run("public final class ReadmeExample { public static void run() {\n" + body + "} }\n");
    }

    private static String constant(String answer) {
        return answer.matches("[A-Z]+") ? "ShadowCount." + answer : answer;
    }

    private static void run(String source) throws Exception {
        Path home = Files.createTempDirectory("readme");
        Path file = Files.writeString(home.resolve("ReadmeExample.java"), source);
        int wrong = ToolProvider.getSystemJavaCompiler().run(null, null, null, "-cp", System.getProperty("java.class.path"),
            "-d", home.toString(), file.toString());
        check.due("compiling the examples", wrong, 0);
        if (wrong == 0) {
            try (URLClassLoader loader = new URLClassLoader(new URL[] {home.toUri().toURL()})) {
                loader.loadClass("ReadmeExample").getMethod("run").invoke(null);
            }
        }
        remove(home);
    }

    private static void remove(Path home) throws IOException {
        try (Stream<Path> files = Files.list(home)) {
            for (Path file : files.toList()) {
                Files.delete(file);
            }
        }
        Files.delete(home);
    }

    private static void nameEveryCall(String readme) {
        for (Method m : ShadowCount.class.getDeclaredMethods()) {
            if (Modifier.isPublic(m.getModifiers())) {
                check.holds("names " + m.getName(), readme.contains("| `" + m.getName() + "("));
            }
        }
    }

    private static void nameEveryTest(String readme) throws IOException {
        TreeSet<String> told = new TreeSet<>();
        Matcher names = Pattern.compile("`(\\w+Test)`").matcher(readme);
        while (names.find()) {
            told.add(names.group(1));
        }
        TreeSet<String> there = new TreeSet<>();
        try (Stream<Path> files = Files.list(Path.of("src/test/java"))) {
            files.map(f -> f.getFileName().toString()).filter(f -> f.endsWith("Test.java"))
                .forEach(f -> there.add(f.substring(0, f.length() - ".java".length())));
        }
        check.same("the tests", told.toString(), there.toString());
    }
}
