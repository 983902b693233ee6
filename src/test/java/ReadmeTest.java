import java.io.IOException;
import java.net.URL;
import java.net.URLClassLoader;
import java.nio.file.Files;
import java.nio.file.Path;
import java.util.regex.Matcher;
import java.util.regex.Pattern;
import javax.tools.JavaCompiler;
import javax.tools.ToolProvider;

/**
 * The answers that README.md's examples state are those that the class gives.
 * The examples are compiled as they stand, with a check put around every call.
 */
public final class ReadmeTest {
    private static final Path README = Path.of("README.md");
    private static final Pattern MADE = Pattern.compile("LoopWorkers \\w+ = new LoopWorkers\\([-\\d, ]*\\);( *//.*)?");
    private static final Pattern CALL =
        Pattern.compile("(\\w+\\.\\w+\\([-\\d, ]*\\)); *// (true|false|-?\\d+|LoopWorkers\\.[A-Z]+)(: .*)?");

    private static int stated = 0;

    public static void main(String[] args) throws IOException, ReflectiveOperationException {
        Check.sentence("README.md", "Use");
        StringBuilder checks = new StringBuilder();
        String fence = "";
        for (String line : Files.readAllLines(README)) {
            boolean example = fence.equals("```java");
            if (line.startsWith("```")) {
                fence = fence.isEmpty() ? line.strip() : "";
                // Two examples may use the same name, so each is a block of its own.
                checks.append(fence.equals("```java") ? "{\n" : example ? "}\n" : "");
            } else if (example && !line.isBlank()) {
                checks.append(checkOf(line.strip())).append('\n');
            }
        }
        Check.due("there are answers to look at", stated > 0, true);
        run("public final class Examples {\npublic static void run() {\n" + checks + "}\n}\n");
        Check.end();
    }

    private static String checkOf(String line) {
        Matcher call = CALL.matcher(line);
        if (call.matches()) {
            stated++;
            return "Check.due(\"" + call.group(1) + "\", " + call.group(1) + ", " + call.group(2) + ");";
        }
        Check.due("makes an object, or makes a call and states its answer: " + line, MADE.matcher(line).matches(), true);
        return line;
    }

    private static void run(String source) throws IOException, ReflectiveOperationException {
        Path dir = Files.createTempDirectory("readme");
        Path file = dir.resolve("Examples.java");
        try {
            Files.writeString(file, source);
            JavaCompiler compiler = ToolProvider.getSystemJavaCompiler();
            int code = compiler.run(null, null, null,
                "-cp", System.getProperty("java.class.path"), "-d", dir.toString(), file.toString());
            Check.due("the compiler, given the examples,", code, 0);
            if (code == 0) {
                try (URLClassLoader loader = new URLClassLoader(new URL[] {dir.toUri().toURL()})) {
                    loader.loadClass("Examples").getMethod("run").invoke(null);
                }
            }
        } finally {
            Files.deleteIfExists(dir.resolve("Examples.class"));
            Files.deleteIfExists(file);
            Files.deleteIfExists(dir);
        }
    }
}
