import java.io.IOException;
import java.lang.reflect.Constructor;
import java.lang.reflect.Executable;
import java.lang.reflect.Field;
import java.lang.reflect.Method;
import java.lang.reflect.Modifier;
import java.nio.file.Path;
import java.util.Arrays;
import java.util.TreeSet;
import java.util.regex.Matcher;
import java.util.regex.Pattern;

/** The public face is the document's, with its throws clauses, and nothing else can be seen from outside. */
final class FaceTest {
    private static final Pattern DECLARED =
            Pattern.compile("public (\\w+ )?(\\w+)\\(([^)]*)\\)(?: throws ([\\w, ]+))?(?:;| \\{)");

    private static final Check check = new Check();

    public static void main(String[] args) throws IOException {
        String face = faceOfTheDocument();
        check.due("constructors and methods of the document's face", () -> declared(face, false).size(), 13);
        Source source = new Source(Path.of(System.getProperty("source", "src/main/java/ResidueRows.java")));
        check.same("the face in the program's text", declared(source.code, true).toString(),
                declared(face, true).toString());
        check.same("the face of the compiled class", compiled().toString(), declared(face, false).toString());
        check.due("the head of the document's class", () -> face.contains("public final class ResidueRows {"), true);
        check.due("the class is final", () -> Modifier.isFinal(ResidueRows.class.getModifiers()), true);
        check.due("the class is public", () -> Modifier.isPublic(ResidueRows.class.getModifiers()), true);
        restIsHidden();
        check.end();
    }

    private static String faceOfTheDocument() {
        String document = Check.document();
        int begin = document.indexOf("## The public face");
        int end = document.indexOf("## Terms");
        return begin >= 0 && end > begin ? document.substring(begin, end) : "";
    }

    /** What a text declares as public; a compiled class doesn't have the parameters' names. */
    private static TreeSet<String> declared(String text, boolean hasNames) {
        TreeSet<String> all = new TreeSet<>();
        for (Matcher m = DECLARED.matcher(text.replaceAll("\\s+", " ")); m.find();) {
            String parameters = hasNames ? m.group(3) : m.group(3).replaceAll(" \\w+(?=,|$)", "").replace(" ", "");
            String thrown = m.group(4) == null ? "" : m.group(4).strip().replace(" ", "");
            all.add((m.group(1) == null ? "" : m.group(1)) + m.group(2) + "(" + parameters + ") " + thrown);
        }
        return all;
    }

    private static TreeSet<String> compiled() {
        TreeSet<String> all = new TreeSet<>();
        for (Method m : ResidueRows.class.getDeclaredMethods()) {
            if (Modifier.isPublic(m.getModifiers())) {
                all.add(m.getReturnType() + " " + m.getName() + signature(m));
            }
        }
        for (Constructor<?> c : ResidueRows.class.getConstructors()) {
            all.add(c.getName() + signature(c));
        }
        return all;
    }

    private static String signature(Executable e) {
        return "(" + names(e.getParameterTypes()) + ") " + names(e.getExceptionTypes());
    }

    private static String names(Class<?>[] types) {
        return String.join(",", Arrays.stream(types).map(Class::getSimpleName).toArray(String[]::new));
    }

    private static void restIsHidden() {
        for (Method m : ResidueRows.class.getDeclaredMethods()) {
            int seen = m.getModifiers();
            check.due(m.getName() + " is public or private", () -> Modifier.isPublic(seen) || Modifier.isPrivate(seen),
                    true);
            check.due(m.getName() + " is an object's own if public",
                    () -> Modifier.isPublic(seen) && Modifier.isStatic(seen), false);
        }
        for (Field f : ResidueRows.class.getDeclaredFields()) {
            check.due(f.getName() + " is private", () -> Modifier.isPrivate(f.getModifiers()), true);
        }
        check.due("constructors", () -> ResidueRows.class.getDeclaredConstructors().length, 1);
        for (Class<?> c : ResidueRows.class.getDeclaredClasses()) {
            check.due(c.getSimpleName() + " is not public", () -> Modifier.isPublic(c.getModifiers()), false);
            check.due(c.getSimpleName() + " is not protected", () -> Modifier.isProtected(c.getModifiers()), false);
        }
    }
}
