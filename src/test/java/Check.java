import java.io.IOException;
import java.nio.charset.StandardCharsets;
import java.nio.file.Files;
import java.nio.file.Path;
import java.nio.file.StandardOpenOption;
import java.util.ArrayList;
import java.util.List;

/** Compares answers with what is due, an exception being written throws.ItsName, and ends the program. */
final class Check {
    interface Call {
        Object answer();
    }

    private final String document = document();
    private final List<String> said = new ArrayList<>();
    private String sentence = "";
    private int asked = 0;
    private int wrong = 0;

    /** The document as one line; empty if there is none, since the answers can be compared all the same. */
    static String document() {
        Path path = Path.of(System.getProperty("document", "../shared/DOC.md"));
        try {
            return Files.readString(path, StandardCharsets.UTF_8).replaceAll("\\s+", " ");
        } catch (IOException e) {
            System.out.println("no document at " + path + ": its words are not looked up");
            return "";
        }
    }

    /** Names the document's words that the answers from here on are due by; they must stand in it. */
    void says(String words) {
        sentence = words;
        said.add(words);
        same("whether the document has these words", String.valueOf(document.isEmpty() || document.contains(words)),
                "true");
    }

    static String outcome(Call call) {
        try {
            Object answer = call.answer();
            return String.valueOf(answer);
        } catch (RuntimeException e) {
            return (isOfTheMachine(e) ? "the machine throws." : "throws.") + e.getClass().getSimpleName();
        }
    }

    /** What the machine throws by itself bears a text of its own; the class has to look and throw ahead of it. */
    private static boolean isOfTheMachine(RuntimeException e) {
        String text = String.valueOf(e.getMessage());
        return text.contains("out of bounds for") || text.equals("/ by zero") || text.startsWith("arraycopy:");
    }

    void due(String name, Call call, Object want) {
        same(name, outcome(call), String.valueOf(want));
    }

    void outOfBounds(String name, Call call) {
        due(name, call, "throws.ArrayIndexOutOfBoundsException");
    }

    void illegalState(String name, Call call) {
        due(name, call, "throws.IllegalStateException");
    }

    void illegalArgument(String name, Call call) {
        due(name, call, "throws.IllegalArgumentException");
    }

    void arithmetic(String name, Call call) {
        due(name, call, "throws.ArithmeticException");
    }

    void same(String name, String got, String want) {
        asked++;
        if (!got.equals(want)) {
            wrong++;
            System.out.println(name + " answered " + got + ", due is " + want
                    + (sentence.isEmpty() ? "" : ", by the words: " + sentence));
        }
    }

    /** The coefficients from 0 on; those behind the ones given are due to be 0. */
    void row(String name, ResidueRows x, int p, long... want) {
        for (int k = 0; k < 32; k++) {
            int power = k;
            due(name + ": at(" + p + ", " + k + ")", () -> x.at(p, power), k < want.length ? want[k] : 0);
        }
    }

    void end() {
        tellWhatWasSaid();
        System.out.println(asked + " answers, " + wrong + " of them not as due");
        if (wrong != 0 || asked == 0) {
            System.exit(1);
        }
    }

    /** For the look at the end whether each sentence of the document has a test. */
    private void tellWhatWasSaid() {
        String path = System.getProperty("said", "");
        if (path.isEmpty()) {
            return;
        }
        try {
            Files.write(Path.of(path), said, StandardCharsets.UTF_8, StandardOpenOption.CREATE,
                    StandardOpenOption.APPEND);
        } catch (IOException e) {
            same("writing to " + path, e.toString(), "done");
        }
    }

    static void fill(ResidueRows x, int p, long... coefficients) {
        for (int k = 0; k < coefficients.length; k++) {
            x.set(p, k, (int) coefficients[k]);
        }
    }

    static int make(ResidueRows x, long... coefficients) {
        int p = x.poly();
        fill(x, p, coefficients);
        return p;
    }

    /** Gives numbers until only so many are left. */
    static void leave(ResidueRows x, int numbers) {
        for (int next = x.poly(); next < 95 - numbers; next = x.poly()) {
        }
    }
}
