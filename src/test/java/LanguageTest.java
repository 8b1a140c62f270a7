import java.nio.charset.StandardCharsets;
import java.nio.file.Files;
import java.nio.file.Path;
import java.util.List;
import java.util.regex.Pattern;

/** Those rules of ../shared/LANGUAGE.md that the program's text shows. */
final class LanguageTest {
    private static final String[] NEVER = {
        "\\b(try|catch|finally|synchronized|assert|package|protected)\\b",
        "->", "::", "Exact\\(", "\\bstatic\\s*\\{", "\\b(equals|hashCode|toString)\\(",
        "\\b(Random|System\\.(?!arraycopy\\()\\w+|Thread|File)\\b", "[^\\x00-\\x7f]",
    };

    private static final String THROW = " +throw new (ArrayIndexOutOfBounds|IllegalState|IllegalArgument|Arithmetic)"
            + "Exception\\(\"[^\"]+\"\\);";

    public static void main(String[] args) throws java.io.IOException {
        Check check = new Check();
        Path source = Path.of(System.getProperty("source", "src/main/java/ResidueRows.java"));
        List<String> lines = Files.readAllLines(source, StandardCharsets.UTF_8);
        int begin = 0;
        for (int i = 0; i < lines.size(); i++) {
            String line = lines.get(i);
            String code = line.strip().startsWith("*") || line.strip().startsWith("/") ? "" : line;
            for (String never : NEVER) {
                check.same("line " + (i + 1) + " has " + never,
                        String.valueOf(Pattern.compile(never).matcher(code).find()), "false");
            }
            if (code.contains("throw ")) {
                check.same("line " + (i + 1) + " throws by rule 6: " + code, String.valueOf(code.matches(THROW)), "true");
            }
            if (code.startsWith("import")) {
                check.same("line " + (i + 1), code, "import java.util.Arrays;");
            }
            if (code.matches(" {4}(private static final|private|public) (class|.*\\().*")
                    || code.matches(" {8}(private |static )?\\w.*\\(.*\\) \\{")) {
                begin = i;
            }
            if (code.matches(" {4}( {4})?\\}") && i - begin > 60) {
                check.same("the method that ends in line " + (i + 1), i - begin + " lines", "60 lines at most");
            }
        }
        check.end();
    }
}
