import java.io.IOException;
import java.lang.reflect.Method;
import java.lang.reflect.Modifier;
import java.nio.charset.StandardCharsets;
import java.nio.file.Files;
import java.nio.file.Path;
import java.util.List;
import java.util.stream.Stream;

/** README.md names every method, with an example, and every test, and tells what an object is good for. */
final class ReadmeTest {
    private static final Check check = new Check();

    public static void main(String[] args) throws IOException {
        Path root = Path.of(System.getProperty("root", "."));
        String text = Files.readString(root.resolve("README.md"), StandardCharsets.UTF_8).replaceAll("\\s+", " ");
        String example = String.join("\n", ReadmeExample.javaLines(root.resolve("README.md")));
        has(example, "new ResidueRows(");
        for (Method m : ResidueRows.class.getDeclaredMethods()) {
            if (Modifier.isPublic(m.getModifiers())) {
                has(text, "| `" + m.getName() + "(");
                has(example, "x." + m.getName() + "(");
                thrown(text, m);
            }
        }
        check.says("An object is used for at most 512 calls after it has been made; what later calls answer is free.");
        has(text, "An object is used for at most 512 calls after it has been made; what later calls answer is free.");
        has(text, ".ci/run");
        List<String> tests;
        try (Stream<Path> files = Files.list(root.resolve("src/test/java"))) {
            tests = files.map(f -> f.getFileName().toString()).filter(f -> f.endsWith("Test.java")).toList();
        }
        check.same("there are tests", String.valueOf(tests.isEmpty()), "false");
        for (String test : tests) {
            has(text, test.replace(".java", ""));
        }
        check.end();
    }

    private static void thrown(String text, Method m) {
        for (Class<?> e : m.getExceptionTypes()) {
            has(text, "`" + e.getSimpleName() + "`: ");
        }
    }

    private static void has(String text, String words) {
        check.same("README.md has " + words, String.valueOf(text.contains(words)), "true");
    }
}
