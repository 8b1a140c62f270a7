import java.io.IOException;
import java.nio.charset.StandardCharsets;
import java.nio.file.Files;
import java.nio.file.Path;
import java.util.ArrayList;
import java.util.List;
import java.util.regex.Matcher;
import java.util.regex.Pattern;

/** Prints a program that asks the calls of README.md and compares the answers with the comments behind them. */
final class ReadmeExample {
    private static final Pattern MADE = Pattern.compile("ResidueRows \\w+ = new ResidueRows\\([^;]*\\);");
    private static final Pattern NAMED = Pattern.compile("(?:int|boolean) (\\w+) = (\\w+\\.\\w+\\([^;]*\\));");
    private static final Pattern ASKED = Pattern.compile("(\\w+\\.\\w+\\([^;]*\\));");

    public static void main(String[] args) throws IOException {
        System.out.println("final class ReadmeCalls {");
        System.out.println("    public static void main(String[] args) {");
        System.out.println("        Check check = new Check();");
        for (String line : javaLines(Path.of(args[0]))) {
            if (!line.isBlank()) {
                System.out.println("        " + tested(line));
            }
        }
        System.out.println("        check.end();");
        System.out.println("    }");
        System.out.println("}");
    }

    /** The lines between a fence that says java and the next one, without their ends. */
    static List<String> javaLines(Path readme) throws IOException {
        List<String> found = new ArrayList<>();
        boolean isJava = false;
        for (String line : Files.readAllLines(readme, StandardCharsets.UTF_8)) {
            if (line.startsWith("```")) {
                isJava = line.equals("```java");
            } else if (isJava) {
                found.add(line);
            }
        }
        return found;
    }

    /** A line in another form, or without an answer, must not go untested. */
    private static String tested(String line) {
        String[] parts = line.split("//", 2);
        String code = parts[0].strip();
        if (MADE.matcher(code).matches()) {
            return code;
        }
        String due = parts.length == 2 ? parts[1].split(":", 2)[0].strip().replace("throws ", "throws.") : "";
        Matcher named = NAMED.matcher(code);
        if (named.matches() && !due.isEmpty()) {
            return code + " " + compare(named.group(2), named.group(1), due);
        }
        Matcher asked = ASKED.matcher(code);
        if (asked.matches() && !due.isEmpty()) {
            return compare(asked.group(1), asked.group(1), due);
        }
        throw new IllegalArgumentException("README.md has a line that can't be tested: " + line);
    }

    private static String compare(String name, String value, String due) {
        return "check.due(\"" + name + "\", () -> " + value + ", \"" + due + "\");";
    }
}
