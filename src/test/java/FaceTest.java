import java.lang.reflect.Constructor;
import java.lang.reflect.Field;
import java.lang.reflect.Method;
import java.lang.reflect.Modifier;
import java.util.Arrays;
import java.util.TreeSet;

/** The public face is the document's, with its throws clauses, and nothing else can be seen from outside. */
final class FaceTest {
    private static final String BOUNDS = "ArrayIndexOutOfBoundsException";
    private static final String STATE = "IllegalStateException";
    private static final String ARGUMENT = "IllegalArgumentException";
    private static final String ARITHMETIC = "ArithmeticException";
    private static final String[] METHODS = {
        "int poly() " + STATE,
        "boolean set(int,int,int) " + BOUNDS,
        "int times(int,int) " + BOUNDS + "," + STATE + "," + ARGUMENT,
        "int over(int,int,int) " + BOUNDS + "," + STATE + "," + ARGUMENT + "," + ARITHMETIC,
        "int gcd(int,int) " + BOUNDS + "," + STATE,
        "int factor(int,long) " + BOUNDS + "," + STATE,
        "int factorOf(int) " + BOUNDS,
        "int multiplicity(int) " + BOUNDS,
        "int at(int,int) " + BOUNDS,
        "int root(int,int) " + BOUNDS,
        "int inverse(int) " + ARITHMETIC,
        "int lift(int,int) " + BOUNDS + "," + STATE + "," + ARGUMENT,
    };

    private static String names(Class<?>[] types) {
        return String.join(",", Arrays.stream(types).map(Class::getSimpleName).toArray(String[]::new));
    }

    public static void main(String[] args) {
        Check check = new Check();
        TreeSet<String> seen = new TreeSet<>();
        TreeSet<String> open = new TreeSet<>();
        TreeSet<String> hidden = new TreeSet<>();
        for (Method m : ResidueRows.class.getDeclaredMethods()) {
            if (Modifier.isPublic(m.getModifiers())) {
                open.add(m.getName());
                seen.add(m.getReturnType() + " " + m.getName() + "(" + names(m.getParameterTypes()) + ") "
                        + names(m.getExceptionTypes()));
            } else {
                hidden.add(m.getName());
                check.due(m.getName() + " is private", () -> Modifier.isPrivate(m.getModifiers()), true);
            }
        }
        check.same("the methods", seen.toString(), new TreeSet<>(Arrays.asList(METHODS)).toString());
        hidden.retainAll(open);
        check.same("private methods with the name of a public one", hidden.toString(), "[]");
        for (Field f : ResidueRows.class.getDeclaredFields()) {
            check.due(f.getName() + " is private", () -> Modifier.isPrivate(f.getModifiers()), true);
            check.due(f.getName() + " is final if static",
                    () -> !Modifier.isStatic(f.getModifiers()) || Modifier.isFinal(f.getModifiers()), true);
        }
        Constructor<?>[] made = ResidueRows.class.getDeclaredConstructors();
        check.due("constructors", () -> made.length, 1);
        check.due("constructor is public", () -> Modifier.isPublic(made[0].getModifiers()), true);
        check.due("constructor takes", () -> names(made[0].getParameterTypes()), "int");
        check.due("class is final", () -> Modifier.isFinal(ResidueRows.class.getModifiers()), true);
        for (Class<?> c : ResidueRows.class.getDeclaredClasses()) {
            check.due(c.getSimpleName() + " is static", () -> Modifier.isStatic(c.getModifiers()), true);
            check.due(c.getSimpleName() + " is not public", () -> Modifier.isPublic(c.getModifiers()), false);
        }
        check.end();
    }
}
