import java.io.IOException;
import java.net.URL;
import java.net.URLClassLoader;
import java.nio.file.Files;
import java.nio.file.Path;
import java.util.regex.Matcher;
import java.util.regex.Pattern;
import javax.tools.ToolProvider;

/** README.md: its examples compile, and each call in them answers what stands behind it. */
public final class ReadmeTest {
    private static final Pattern BLOCK = Pattern.compile("(?s)```java\n(.*?)```");
    private static final Pattern ANSWER = Pattern.compile("(?m)^(bridge\\.\\w+\\(.*\\)); +// (-?\\d+)(:.*)?$");

    public static void main(String[] args) throws IOException, ReflectiveOperationException {
        String readme = Files.readString(Path.of("README.md"));
        StringBuilder calls = new StringBuilder();
        StringBuilder helpers = new StringBuilder();
        Matcher block = BLOCK.matcher(readme);
        while (block.find()) {
            (block.group(1).startsWith("static") ? helpers : calls).append(block.group(1));
        }
        String checked = ANSWER.matcher(calls).replaceAll("ReadmeTest.due(\"$1\", $1, $2);");
        int answers = checked.split("ReadmeTest\\.due", -1).length - 1;
        Check.due("calls of README.md without an answer", calls.toString().split("(?m)^bridge\\.", -1).length - 1, answers);
        Check.due("README.md has an example", answers > 20 ? 1 : 0, 1);
        run("public class ReadmeExample {\npublic static void main(String[] args) {\n" + checked + "}\n" + helpers + "}\n");
        Check.finish("ReadmeTest");
    }

    /** Called by the examples. */
    public static void due(String call, int got, int want) {
        Check.due("README.md: " + call, got, want);
    }

    private static void run(String source) throws IOException, ReflectiveOperationException {
        Path place = Files.createTempDirectory("readme");
        Path file = place.resolve("ReadmeExample.java");
        Path made = place.resolve("ReadmeExample.class");
        try {
            Files.writeString(file, source);
            String classes = System.getProperty("java.class.path");
            int failed = ToolProvider.getSystemJavaCompiler().run(null, null, null, "-cp", classes, "-d", place.toString(),
                    file.toString());
            Check.due("README.md's examples compile", failed, 0);
            if (failed == 0) {
                try (URLClassLoader loader = new URLClassLoader(new URL[] {place.toUri().toURL()})) {
                    loader.loadClass("ReadmeExample").getMethod("main", String[].class).invoke(null, (Object) new String[0]);
                }
            }
        } finally {
            Files.deleteIfExists(made);
            Files.deleteIfExists(file);
            Files.deleteIfExists(place);
        }
    }
}
