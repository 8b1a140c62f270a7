import java.io.IOException;
import java.nio.charset.StandardCharsets;
import java.nio.file.Files;
import java.nio.file.Path;

/** Looks whether the tests that ran ahead of it named every sentence of "What it is", "Terms" and the promises. */
final class Sentences {
    public static void main(String[] args) throws IOException {
        String text = Check.document();
        int begin = Math.max(text.indexOf("## What it is"), 0);
        int end = Math.max(text.indexOf("## Not promised"), begin);
        // Headings and signatures are no sentences, and FaceTest compares the face.
        String words = text.substring(begin, end).replaceAll("## The public face .*## Terms", "")
                .replace("## What it is", "")
                .replaceAll("## Promise \\d+: (A new object|\\w+) `[^`]*`:", "");
        boolean[] named = new boolean[words.length()];
        for (String sentence : Files.readAllLines(Path.of(System.getProperty("said")), StandardCharsets.UTF_8)) {
            for (int at = words.indexOf(sentence); at >= 0; at = words.indexOf(sentence, at + 1)) {
                java.util.Arrays.fill(named, at, at + sentence.length(), true);
            }
        }
        int missing = 0;
        for (int i = 0; i < words.length(); i++) {
            int first = i;
            while (i < words.length() && !named[i]) {
                i++;
            }
            String gap = words.substring(first, i);
            if (gap.matches(".*[A-Za-z0-9].*")) {
                missing++;
                System.out.println("no test names the words: " + gap.strip());
            }
        }
        System.out.println(words.length() + " characters of the document, " + missing + " gaps in what the tests name");
        if (missing != 0) {
            System.exit(1);
        }
    }
}
