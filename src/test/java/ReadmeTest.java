import java.io.File;
import java.net.URL;
import java.net.URLClassLoader;
import java.nio.file.Files;
import java.nio.file.Path;
import java.util.List;
import java.util.function.BiConsumer;
import java.util.regex.Matcher;
import java.util.regex.Pattern;
import java.util.stream.Stream;
import javax.tools.ToolProvider;

/**
 * The examples of README.md are compiled as they stand there, and each call is compared with the answer
 * in its comment; the table of errors is compared with the constants. Run at the project's root.
 */
public final class ReadmeTest {
    private static final Pattern BLOCK = Pattern.compile("```java\n(.*?)```", Pattern.DOTALL);
    private static final Pattern CALL = Pattern.compile("(tool\\.\\w+\\([^)]*\\)); *// (-?\\d+|'.'|[A-Z_]{2,})(?![\\w]).*");
    private static final Pattern ROW = Pattern.compile("\\| `([A-Z_]+)` \\| (-\\d+) \\|");

    private ReadmeTest() {
    }

    public static void main(String[] args) throws Exception {
        String readme = Files.readString(Path.of("README.md"));
        runExamples(sourceOf(readme));
        compareTable(readme);
        compareTestNames(readme);
        Check.finish();
    }

    /** A class with the readme's helper method and one method that runs each other block. */
    private static String sourceOf(String readme) {
        StringBuilder helpers = new StringBuilder();
        StringBuilder examples = new StringBuilder();
        int calls = 0;
        Matcher block = BLOCK.matcher(readme);
        while (block.find()) {
            if (block.group(1).startsWith("static ")) {
                helpers.append(block.group(1));
                continue;
            }
            examples.append("{\n");
            for (String line : block.group(1).split("\n")) {
                Matcher call = CALL.matcher(line);
                boolean isCall = call.matches();
                calls += isCall ? 1 : 0;
                Check.due("README, a call without its answer: " + line, line.startsWith("tool.") && !isCall ? 1 : 0, 0);
                examples.append(isCall ? compared(call.group(1), call.group(2)) : line).append('\n');
            }
            examples.append("}\n");
        }
        Check.due("README has examples", calls > 0 ? 1 : 0, 1);
        return "public class ReadmeExamples {\n" + helpers
            + "public static void run(java.util.function.BiConsumer<String, long[]> due) {\n" + examples + "}\n}\n";
    }

    private static String compared(String call, String answer) {
        String want = answer.matches("[A-Z_]+") ? "GrammarReshaper." + answer : answer;
        return "due.accept(\"README, " + call + "\", new long[] {" + call + ", " + want + "});";
    }

    private static void runExamples(String source) throws Exception {
        Path directory = Files.createTempDirectory("readme");
        try {
            Path file = Files.writeString(directory.resolve("ReadmeExamples.java"), source);
            int failed = ToolProvider.getSystemJavaCompiler().run(null, null, null,
                "-cp", System.getProperty("java.class.path"), "-d", directory.toString(), file.toString());
            Check.due("compiling the examples of README", failed, 0);
            if (failed == 0) {
                runCompiled(directory);
            }
        } finally {
            delete(directory);
        }
    }

    private static void runCompiled(Path directory) throws Exception {
        BiConsumer<String, long[]> due = (what, answers) -> Check.due(what, answers[0], answers[1]);
        try (URLClassLoader loader = new URLClassLoader(new URL[] {directory.toUri().toURL()})) {
            loader.loadClass("ReadmeExamples").getMethod("run", BiConsumer.class).invoke(null, due);
        }
    }

    private static void delete(Path directory) throws Exception {
        for (File file : directory.toFile().listFiles()) {
            Files.delete(file.toPath());
        }
        Files.delete(directory);
    }

    private static void compareTable(String readme) throws Exception {
        int rows = 0;
        Matcher row = ROW.matcher(readme);
        while (row.find()) {
            rows++;
            int value = GrammarReshaper.class.getField(row.group(1)).getInt(null);
            Check.due("README, value of " + row.group(1), Integer.parseInt(row.group(2)), value);
        }
        Check.due("README, error codes in the table", rows, 8);
    }

    private static void compareTestNames(String readme) throws Exception {
        try (Stream<Path> files = Files.list(Path.of("src/test/java"))) {
            List<String> names = files.map(f -> f.getFileName().toString()).filter(n -> n.endsWith("Test.java")).toList();
            for (String name : names) {
                Check.due("README names " + name, readme.contains("`" + name.replace(".java", "") + "`") ? 1 : 0, 1);
            }
        }
    }
}
