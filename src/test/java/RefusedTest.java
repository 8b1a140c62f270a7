/** The section "Terms": which exception a refused call throws, and that it changes no later answer. */
final class RefusedTest {
    private static final String BOUNDS = "throws.ArrayIndexOutOfBoundsException";
    private static final String STATE = "throws.IllegalStateException";
    private static final String ARGUMENT = "throws.IllegalArgumentException";
    private static final String ARITHMETIC = "throws.ArithmeticException";
    private static final int[] NO_POLYNOMIAL = {-1, 96, Integer.MIN_VALUE, Integer.MAX_VALUE};
    private static final int[] NO_COEFFICIENT = {-1, 32, Integer.MIN_VALUE, Integer.MAX_VALUE};
    private static final int[] NO_FACTOR = {-1, 3, Integer.MIN_VALUE, Integer.MAX_VALUE};

    // What the polynomials are in all three recipes
    private static final int HIGH = 0;
    private static final int FACTORED = 1;
    private static final int CONSTANT = 2;
    private static final int ZERO = 3;
    private static final int SIXTEEN = 4;
    private static final int LIFTED = 8;
    // The factors are x + 1, twice, and x + 3 and x + 4, once each.
    private static final int TWICE = 0;
    private static final int ONCE = 1;

    private static final Check check = new Check();

    public static void main(String[] args) {
        Twin open = new Twin(check, 7, x -> recipe(x, 8));
        Twin one = new Twin(check, 7, x -> recipe(x, 1));
        Twin full = new Twin(check, 7, x -> recipe(x, 0));
        recipeHolds();
        check.says("ArrayIndexOutOfBoundsException: no such polynomial, coefficient, or factor");
        bounds(open);
        check.says("IllegalStateException: no number is left (95 was given), or as said");
        state(one, full);
        check.says("of several exceptions that apply the one that stands first behind \"throws\" is thrown, and nothing "
                + "changes.");
        single(open);
        pairs(open, full);
        minusOne(open, one, full);
        newObject();
        check.end();
    }

    private static void recipe(ResidueRows x, int left) {
        Check.make(x, 1);
        x.set(HIGH, 31, 3);
        // 2 (x + 1)^2 (x^2 + 5) modulo 7
        Check.make(x, 3, 6, 5, 4, 2);
        Check.make(x, 4);
        Check.make(x);
        Check.make(x, 2);
        x.set(SIXTEEN, 16, 5);
        x.factor(FACTORED, 0);
        x.lift(ONCE, 2);
        Check.leave(x, left);
        // What stands behind the number given next must stay too.
        for (int p = 87; p < 96; p++) {
            x.set(p, p - 70, 6);
        }
    }

    private static void recipeHolds() {
        ResidueRows x = new ResidueRows(7);
        recipe(x, 8);
        check.due("how often x + 1 divides", () -> x.multiplicity(TWICE), 2);
        check.due("how often x + 3 divides", () -> x.multiplicity(ONCE), 1);
        check.due("what was lifted isn't below the prime", () -> x.at(LIFTED, 0) >= 7, true);
        check.due("the next number of 8 left", () -> x.poly(), 88);
    }

    private static void bounds(Twin open) {
        for (int p : NO_POLYNOMIAL) {
            open.changesNothing("set(" + p + ", 0, 1)", x -> x.set(p, 0, 1), BOUNDS);
            open.changesNothing("at(" + p + ", 0)", x -> x.at(p, 0), BOUNDS);
            open.changesNothing("times(" + p + ", 1)", x -> x.times(p, FACTORED), BOUNDS);
            open.changesNothing("times(1, " + p + ")", x -> x.times(FACTORED, p), BOUNDS);
            open.changesNothing("over(" + p + ", 1, 0)", x -> x.over(p, FACTORED, 0), BOUNDS);
            open.changesNothing("over(1, " + p + ", 1)", x -> x.over(FACTORED, p, 1), BOUNDS);
            open.changesNothing("gcd(" + p + ", 1)", x -> x.gcd(p, FACTORED), BOUNDS);
            open.changesNothing("gcd(1, " + p + ")", x -> x.gcd(FACTORED, p), BOUNDS);
            open.changesNothing("factor(" + p + ", 0)", x -> x.factor(p, 0), BOUNDS);
            open.changesNothing("root(" + p + ", 0)", x -> x.root(p, 0), BOUNDS);
        }
        for (int k : NO_COEFFICIENT) {
            open.changesNothing("set of what was lifted, at " + k, x -> x.set(LIFTED, k, 1), BOUNDS);
            open.changesNothing("at(8, " + k + ")", x -> x.at(LIFTED, k), BOUNDS);
            open.changesNothing("set(96, " + k + ", 1)", x -> x.set(96, k, 1), BOUNDS);
            open.changesNothing("at(-1, " + k + ")", x -> x.at(-1, k), BOUNDS);
        }
        for (int k : NO_FACTOR) {
            open.changesNothing("factorOf(" + k + ")", x -> x.factorOf(k), BOUNDS);
            open.changesNothing("multiplicity(" + k + ")", x -> x.multiplicity(k), BOUNDS);
            open.changesNothing("lift(" + k + ", 2)", x -> x.lift(k, 2), BOUNDS);
        }
    }

    private static void state(Twin one, Twin full) {
        full.changesNothing("poly()", x -> x.poly(), STATE);
        full.changesNothing("times", x -> x.times(CONSTANT, FACTORED), STATE);
        full.changesNothing("times of 0", x -> x.times(ZERO, ZERO), STATE);
        full.changesNothing("over", x -> x.over(HIGH, FACTORED, 0), STATE);
        full.changesNothing("over, the rest", x -> x.over(HIGH, FACTORED, 1), STATE);
        full.changesNothing("gcd", x -> x.gcd(FACTORED, SIXTEEN), STATE);
        full.changesNothing("gcd of 0 and 0", x -> x.gcd(ZERO, ZERO), STATE);
        full.changesNothing("lift", x -> x.lift(ONCE, 2), STATE);
        full.changesNothing("lift to the power 1", x -> x.lift(ONCE, 1), STATE);
        full.changesNothing("factor of degree 1", x -> x.factor(LIFTED, 0), STATE);
        full.changesNothing("factor of degree 31", x -> x.factor(HIGH, 0), STATE);
        one.changesNothing("factor of degree 4, one number left", x -> x.factor(FACTORED, 1), STATE);
        one.changesNothing("factor of degree 31, one number left", x -> x.factor(HIGH, -1), STATE);
    }

    private static void single(Twin open) {
        open.changesNothing("times, degree 32", x -> x.times(SIXTEEN, SIXTEEN), ARGUMENT);
        open.changesNothing("times, degree 62", x -> x.times(HIGH, HIGH), ARGUMENT);
        open.changesNothing("times, degree 32", x -> x.times(HIGH, LIFTED), ARGUMENT);
        open.changesNothing("over, what -1", x -> x.over(HIGH, FACTORED, -1), ARGUMENT);
        open.changesNothing("over, what 2", x -> x.over(HIGH, FACTORED, 2), ARGUMENT);
        open.changesNothing("over, b is 0", x -> x.over(HIGH, ZERO, 0), ARITHMETIC);
        open.changesNothing("over, b is 0, the rest", x -> x.over(HIGH, ZERO, 1), ARITHMETIC);
        open.changesNothing("over, both are 0", x -> x.over(ZERO, ZERO, 0), ARITHMETIC);
        open.changesNothing("inverse(0)", x -> x.inverse(0), ARITHMETIC);
        open.changesNothing("inverse(-7)", x -> x.inverse(-7), ARITHMETIC);
        open.changesNothing("lift, power 0", x -> x.lift(ONCE, 0), ARGUMENT);
        open.changesNothing("lift, power 12", x -> x.lift(ONCE, 12), ARGUMENT);
    }

    /** Each two of a method's exceptions, in the order that stands behind its "throws", and more of them at once. */
    private static void pairs(Twin open, Twin full) {
        full.changesNothing("times: bounds, state", x -> x.times(96, FACTORED), BOUNDS);
        full.changesNothing("times: bounds, state", x -> x.times(FACTORED, -1), BOUNDS);
        open.changesNothing("times: bounds, and the other's degree is 31", x -> x.times(HIGH, 96), BOUNDS);
        full.changesNothing("times: state, argument", x -> x.times(HIGH, HIGH), STATE);
        full.changesNothing("times: bounds, state, and the other's degree is 31", x -> x.times(-1, HIGH), BOUNDS);

        full.changesNothing("over: bounds, state", x -> x.over(96, FACTORED, 0), BOUNDS);
        full.changesNothing("over: bounds, state", x -> x.over(FACTORED, 96, 0), BOUNDS);
        open.changesNothing("over: bounds, argument", x -> x.over(-1, FACTORED, 2), BOUNDS);
        open.changesNothing("over: bounds, argument", x -> x.over(FACTORED, -1, 2), BOUNDS);
        open.changesNothing("over: bounds, arithmetic", x -> x.over(96, ZERO, 0), BOUNDS);
        full.changesNothing("over: state, argument", x -> x.over(FACTORED, FACTORED, -1), STATE);
        full.changesNothing("over: state, arithmetic", x -> x.over(FACTORED, ZERO, 1), STATE);
        open.changesNothing("over: argument, arithmetic", x -> x.over(FACTORED, ZERO, 2), ARGUMENT);
        full.changesNothing("over: bounds, state, argument", x -> x.over(FACTORED, 96, 2), BOUNDS);
        full.changesNothing("over: bounds, state, arithmetic", x -> x.over(96, ZERO, 0), BOUNDS);
        open.changesNothing("over: bounds, argument, arithmetic", x -> x.over(96, ZERO, 2), BOUNDS);
        full.changesNothing("over: state, argument, arithmetic", x -> x.over(FACTORED, ZERO, 2), STATE);
        full.changesNothing("over: all four", x -> x.over(-1, ZERO, -1), BOUNDS);

        full.changesNothing("gcd: bounds, state", x -> x.gcd(96, FACTORED), BOUNDS);
        full.changesNothing("gcd: bounds, state", x -> x.gcd(FACTORED, -1), BOUNDS);
        full.changesNothing("factor: bounds, state", x -> x.factor(96, 0), BOUNDS);
        full.changesNothing("factor: bounds, state", x -> x.factor(-1, 0), BOUNDS);

        full.changesNothing("lift: bounds, state", x -> x.lift(3, 2), BOUNDS);
        open.changesNothing("lift: bounds, argument", x -> x.lift(3, 0), BOUNDS);
        open.changesNothing("lift: bounds, argument", x -> x.lift(-1, 12), BOUNDS);
        full.changesNothing("lift: state, argument", x -> x.lift(ONCE, 0), STATE);
        full.changesNothing("lift: state, argument", x -> x.lift(ONCE, 12), STATE);
        full.changesNothing("lift: all three", x -> x.lift(-1, 0), BOUNDS);
        full.changesNothing("lift: all three", x -> x.lift(3, 12), BOUNDS);
    }

    private static void minusOne(Twin open, Twin one, Twin full) {
        check.says("-1 of a polynomial 0 (then what was factored stays)");
        open.changesNothing("factor of 0", x -> x.factor(ZERO, 5), "-1");
        one.changesNothing("factor of 0, one number left", x -> x.factor(ZERO, 5), "-1");
        full.changesNothing("factor of 0, no number left", x -> x.factor(ZERO, 5), "-1");
        check.says("-1 if its multiplicity isn't 1 (what is thrown, also that no number is left, goes ahead of that)");
        open.changesNothing("lift of multiplicity 2", x -> x.lift(TWICE, 2), "-1");
        open.changesNothing("lift of multiplicity 2, power 1", x -> x.lift(TWICE, 1), "-1");
        one.changesNothing("lift of multiplicity 2, one number left", x -> x.lift(TWICE, 11), "-1");
        open.changesNothing("lift of multiplicity 2, power 0", x -> x.lift(TWICE, 0), ARGUMENT);
        open.changesNothing("lift of multiplicity 2, power 12", x -> x.lift(TWICE, 12), ARGUMENT);
        full.changesNothing("lift of multiplicity 2, no number left", x -> x.lift(TWICE, 2), STATE);
        full.changesNothing("lift of multiplicity 2, no number left, power 0", x -> x.lift(TWICE, 0), STATE);
        check.says("-1 if there is none such");
        open.changesNothing("root behind the last", x -> x.root(FACTORED, 3), "-1");
        full.changesNothing("root of a constant, no number left", x -> x.root(CONSTANT, 0), "-1");
        full.changesNothing("a root, no number left", x -> x.root(FACTORED, 0), "3");
    }

    private static void newObject() {
        check.says("All polynomials are 0, nothing was factored.");
        Twin blank = new Twin(check, 7, x -> { });
        blank.changesNothing("factorOf(0)", x -> x.factorOf(0), BOUNDS);
        blank.changesNothing("multiplicity(0)", x -> x.multiplicity(0), BOUNDS);
        blank.changesNothing("lift(0, 0)", x -> x.lift(0, 0), BOUNDS);
        blank.changesNothing("over(0, 0, 0)", x -> x.over(0, 0, 0), ARITHMETIC);
        blank.changesNothing("factor(0, 0)", x -> x.factor(0, 0), "-1");
        blank.changesNothing("root(0, 7)", x -> x.root(0, 7), "-1");
        blank.changesNothing("set(96, 0, 1)", x -> x.set(96, 0, 1), BOUNDS);
    }
}
