import java.io.IOException;
import java.lang.reflect.Array;
import java.lang.reflect.Executable;
import java.lang.reflect.Field;
import java.lang.reflect.Modifier;
import java.nio.file.Path;
import java.util.ArrayList;
import java.util.Arrays;
import java.util.Collections;
import java.util.IdentityHashMap;
import java.util.List;
import java.util.Set;
import java.util.TreeMap;
import java.util.TreeSet;
import java.util.regex.Matcher;
import java.util.regex.Pattern;

/** The rules of ../shared/LANGUAGE.md, as far as the program's text and its compiled classes show them. */
final class LanguageTest {
    private static final Set<String> LIBRARY = Set.of("Arrays.fill", "Arrays.copyOf", "Arrays.copyOfRange",
            "System.arraycopy", "Math.floorMod", "Math.floorDiv", "Math.max", "Math.min", "Math.abs", "Integer.compare",
            "Long.compare", "Integer.bitCount", "Long.bitCount");
    private static final Set<String> EXCEPTIONS = Set.of("ArrayIndexOutOfBoundsException", "IllegalStateException",
            "IllegalArgumentException", "ArithmeticException");
    private static final Set<Class<?>> NUMBERS = Set.of(int.class, long.class, short.class, byte.class, char.class,
            boolean.class);
    private static final String[] NEVER = {
        "rule 1: \\b(package|protected)\\b",
        "rule 2: ->|::",
        "rule 3: \\b(double|float|Object|var)\\b",
        "rule 4: \\w+Exact\\b",
        "rule 5: \\bstatic\\s*\\{",
        "rule 6: \\b(try|catch|finally|synchronized|assert|instanceof|equals|hashCode|toString|getMessage)\\b",
        "rule 7: \\bnull\\b",
        "rule 9: \\bwhile\\s*\\(\\s*true|\\bfor\\s*\\([^;]*;\\s*;",
        "rule 10: \"\\s*\\+|\\+\\s*\"",
        "rule 13: \\b(Random|Thread|File|Runtime|Process|nanoTime|currentTimeMillis|identityHashCode|getenv)\\b",
    };

    private static final Check check = new Check();
    private static Source source;

    public static void main(String[] args) throws IOException {
        source = new Source(Path.of(System.getProperty("source", "src/main/java/ResidueRows.java")));
        check.same("the reader finds classes", String.valueOf(source.classes.contains("ResidueRows")), "true");
        check.same("the reader finds methods", String.valueOf(source.methods.size() > 12), "true");
        wordsThatNeverStand();
        members();
        types();
        library();
        exceptions();
        loops();
        chainsOfCalls();
        sizes();
        whatIsMade();
        check.end();
    }

    private static List<Class<?>> ownClasses() {
        List<Class<?>> all = new ArrayList<>();
        all.add(ResidueRows.class);
        for (int i = 0; i < all.size(); i++) {
            all.addAll(Arrays.asList(all.get(i).getDeclaredClasses()));
        }
        return all;
    }

    private static Set<String> found(String pattern, String in) {
        Set<String> all = new TreeSet<>();
        for (Matcher m = Pattern.compile(pattern).matcher(in); m.find();) {
            all.add(m.group());
        }
        return all;
    }

    private static void wordsThatNeverStand() {
        for (String rule : NEVER) {
            String[] parts = rule.split(": ", 2);
            check.same(parts[0] + ": stands in the text", found(parts[1], source.code).toString(), "[]");
        }
        check.same("rule 3: characters beyond the plain ones", found("[^\\x00-\\x7f]", source.text).toString(), "[]");
    }

    private static void members() {
        Set<String> open = new TreeSet<>();
        Set<String> hidden = new TreeSet<>();
        for (Class<?> c : ownClasses()) {
            for (var m : c.getDeclaredMethods()) {
                (c == ResidueRows.class && Modifier.isPublic(m.getModifiers()) ? open : hidden).add(m.getName());
            }
            boolean isStatic = c == ResidueRows.class || Modifier.isStatic(c.getModifiers());
            check.same("rule 1: " + c.getName() + " is static", String.valueOf(isStatic), "true");
        }
        hidden.retainAll(open);
        check.same("rule 1: other methods with the name of a public one", hidden.toString(), "[]");
        check.same("rule 1: public classes", found("\\bpublic\\b[\\w ]*\\bclass \\w+", source.code).toString(),
                "[public final class ResidueRows]");
        check.same("rule 2: classes inside methods", source.classesInMethods.toString(), "[]");
    }

    private static void types() {
        for (Class<?> c : ownClasses()) {
            for (Field f : c.getDeclaredFields()) {
                type(c.getName() + "." + f.getName(), f.getType());
                if (Modifier.isStatic(f.getModifiers())) {
                    check.same("rule 5: " + f.getName() + " is final",
                            String.valueOf(Modifier.isFinal(f.getModifiers())), "true");
                    check.same("rule 5: " + f.getName() + " is a constant", String.valueOf(NUMBERS.contains(f.getType())),
                            "true");
                }
            }
            for (var m : c.getDeclaredMethods()) {
                type(c.getName() + "." + m.getName(), m.getReturnType());
                parameters(c, m);
            }
            for (var m : c.getDeclaredConstructors()) {
                parameters(c, m);
            }
        }
    }

    private static void parameters(Class<?> owner, Executable method) {
        String name = owner.getName() + "." + method.getName();
        for (Class<?> type : method.getParameterTypes()) {
            type("a parameter of " + name, type);
        }
        check.same("rule 11: " + name + " takes seven parameters at most",
                String.valueOf(method.getParameterCount() <= 7), "true");
    }

    private static void type(String name, Class<?> type) {
        boolean isKnown = type == void.class || NUMBERS.contains(type) || ownClasses().contains(type);
        if (type.isArray()) {
            Class<?> part = type.getComponentType();
            boolean isOfRows = part.isArray() && NUMBERS.contains(part.getComponentType());
            isKnown = NUMBERS.contains(part) || ownClasses().contains(part) || isOfRows;
        }
        check.same("rule 3: the type " + type.getSimpleName() + " of " + name + " is one of the rule's",
                String.valueOf(isKnown), "true");
    }

    private static void library() {
        check.same("rule 4: what is imported", found("\\bimport[^;]*;", source.code).toString(),
                "[import java.util.Arrays;]");
        Set<String> names = found("\\b[A-Z]\\w*[a-z]\\w*\\b", source.code);
        names.removeAll(source.classes);
        names.removeAll(EXCEPTIONS);
        names.removeAll(Set.of("Arrays", "System", "Math", "Integer", "Long"));
        check.same("rule 4: names of the library", names.toString(), "[]");
        Set<String> calls = found("\\b(Arrays|System|Math|Integer|Long)\\s*\\.\\s*\\w+", source.code);
        calls.removeAll(LIBRARY);
        calls.remove("util.Arrays");
        check.same("rule 4: functions of the library", calls.toString(), "[]");
    }

    private static void exceptions() {
        Set<String> thrown = found("\\bthrow\\b[^;]*;", source.code);
        thrown.removeIf(t -> t.matches("throw new (" + String.join("|", EXCEPTIONS) + ")\\(\"\"\\);"));
        check.same("rule 6: other forms of throw", thrown.toString(), "[]");
        for (Source.Method m : source.methods) {
            boolean throwsInMaking = m.isConstructor() && !found("\\bthrow\\b", m.body()).isEmpty();
            check.same("rule 6: the constructor of " + m.owner() + " throws", String.valueOf(throwsInMaking), "false");
        }
    }

    /** A loop's own line compares something with its bound. */
    private static void loops() {
        int seen = 0;
        for (Matcher m = Pattern.compile("\\b(for|while)\\s*\\(([^{]*)\\{").matcher(source.code); m.find();) {
            seen++;
            String[] parts = m.group(2).split(";");
            boolean isOverAnArray = m.group(1).equals("for") && parts.length == 1 && parts[0].contains(":");
            String until = m.group(1).equals("for") && parts.length == 3 ? parts[1] : m.group(2);
            check.same("rule 9: the loop " + m.group().strip() + " has a bound",
                    String.valueOf(isOverAnArray || found("<=?|>=?", until).size() > 0), "true");
        }
        check.same("the reader finds loops", String.valueOf(seen > 10), "true");
    }

    private static void chainsOfCalls() {
        TreeMap<String, Set<String>> calls = new TreeMap<>();
        for (Source.Method m : source.methods) {
            calls.computeIfAbsent(m.name(), name -> new TreeSet<>());
        }
        for (Source.Method m : source.methods) {
            Set<String> called = found("\\b\\w+(?=\\s*\\()", m.body());
            called.retainAll(calls.keySet());
            calls.get(m.name()).addAll(called);
        }
        for (String name : calls.keySet()) {
            int depth = depth(name, calls, new ArrayList<>());
            check.same("rules 8 and 11: calls from " + name + " go at most eight deep, and never in a ring",
                    String.valueOf(depth <= 8), "true");
        }
    }

    private static int depth(String name, TreeMap<String, Set<String>> calls, List<String> open) {
        if (open.contains(name)) {
            return 1000;
        }
        open.add(name);
        int deepest = 0;
        for (String called : calls.get(name)) {
            deepest = Math.max(deepest, depth(called, calls, open));
        }
        open.remove(open.size() - 1);
        return deepest + 1;
    }

    private static void sizes() {
        for (Source.Method m : source.methods) {
            check.same("rule 11: " + m.owner() + "." + m.name() + " has sixty lines at most",
                    String.valueOf(m.lines() <= 60), "true");
        }
        check.same("rule 11: twelve classes at most", String.valueOf(source.classes.size() <= 12), "true");
        for (Class<?> c : ownClasses()) {
            long fields = Arrays.stream(c.getDeclaredFields()).filter(f -> !Modifier.isStatic(f.getModifiers())).count();
            check.same("rule 11: " + c.getName() + " has twenty fields at most", String.valueOf(fields <= 20), "true");
        }
    }

    /** Only constructors make anything, and what an object holds does not grow. */
    private static void whatIsMade() {
        for (Source.Method m : source.methods) {
            if (!m.isConstructor()) {
                Set<String> made = found("(?<!\\bthrow )\\bnew\\b[^;]*;", m.body());
                check.same("rule 12: what " + m.owner() + "." + m.name() + " makes", made.toString(), "[]");
            }
        }
        ResidueRows x = new ResidueRows(7);
        String before = room(x);
        x.set(x.poly(), 31, 1);
        x.set(0, 0, -1);
        for (int i = 0; i < 4; i++) {
            int count = x.factor(0, i);
            x.lift(count - 1, 11);
            x.gcd(0, count);
            x.over(0, count, 0);
            x.times(1, 1);
            x.root(0, 0);
        }
        check.same("rule 12: the room that an object takes after calls", room(x), before);
        String[] parts = before.split(" ");
        check.same("rule 12: 600 objects and 10000 fields and elements at most: " + before,
                String.valueOf(Integer.parseInt(parts[0]) <= 600 && Integer.parseInt(parts[2]) <= 10000), "true");
    }

    /** How many objects and arrays can be reached from the object, and how many fields and elements they have. */
    private static String room(Object from) {
        Set<Object> seen = Collections.newSetFromMap(new IdentityHashMap<>());
        List<Object> open = new ArrayList<>();
        open.add(from);
        seen.add(from);
        int slots = 0;
        for (int i = 0; i < open.size(); i++) {
            for (Object part : parts(open.get(i))) {
                slots++;
                if (part != null && (part.getClass().isArray() || ownClasses().contains(part.getClass()))
                        && seen.add(part)) {
                    open.add(part);
                }
            }
        }
        return open.size() + " objects, " + slots + " fields and elements";
    }

    private static List<Object> parts(Object o) {
        List<Object> parts = new ArrayList<>();
        if (o.getClass().isArray()) {
            for (int i = 0; i < Array.getLength(o); i++) {
                parts.add(Array.get(o, i));
            }
            return parts;
        }
        for (Field f : o.getClass().getDeclaredFields()) {
            if (!Modifier.isStatic(f.getModifiers())) {
                f.setAccessible(true);
                try {
                    parts.add(f.get(o));
                } catch (IllegalAccessException e) {
                    throw new IllegalStateException(e);
                }
            }
        }
        return parts;
    }
}
