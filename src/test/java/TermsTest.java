/** The section "Terms": numbers, coefficients, degrees, what was lifted, and the numbers that are left. */
final class TermsTest {
    private static final String LIFTED_COUNTS = "(of what was lifted: 0 .. the power of the prime less 1; where it takes "
            + "part in anything but at(), they count modulo the prime)";

    private static final Check check = new Check();

    public static void main(String[] args) {
        numbersAndCoefficients();
        allAreZeroAtFirst();
        zeroIsTheFirstNumber();
        makersGiveTheNextNumber();
        coefficientsStayBelowThePrime();
        liftedCoefficientsStayBelowThePower();
        liftedTakesPartModuloThePrime();
        degreeOfZero();
        degreeFallsWithTheHighestCoefficient();
        monic();
        theLastNumber();
        check.end();
    }

    private static void numbersAndCoefficients() {
        check.says("POLYNOMIALS have numbers 0 .. 95 and coefficients 0 .. 31, those of the letter to the powers 0 .. 31");
        int[] numbers = {0, 1, 94, 95};
        int[] powers = {0, 1, 30, 31};
        ResidueRows x = new ResidueRows(11);
        for (int p : numbers) {
            for (int k : powers) {
                int value = 1 + (p + k) % 10;
                check.due("set(" + p + ", " + k + ", ..)", () -> x.set(p, k, value), true);
                check.due("at(" + p + ", " + k + ")", () -> x.at(p, k), value);
            }
            check.outOfBounds("set(" + p + ", -1, 1)", () -> x.set(p, -1, 1));
            check.outOfBounds("set(" + p + ", 32, 1)", () -> x.set(p, 32, 1));
            check.outOfBounds("at(" + p + ", -1)", () -> x.at(p, -1));
            check.outOfBounds("at(" + p + ", 32)", () -> x.at(p, 32));
        }
        for (int k : powers) {
            check.outOfBounds("set(-1, " + k + ", 1)", () -> x.set(-1, k, 1));
            check.outOfBounds("set(96, " + k + ", 1)", () -> x.set(96, k, 1));
            check.outOfBounds("at(-1, " + k + ")", () -> x.at(-1, k));
            check.outOfBounds("at(96, " + k + ")", () -> x.at(96, k));
        }
        ResidueRows y = new ResidueRows(11);
        y.set(0, 31, 5);
        y.set(95, 0, 3);
        check.due("times(94, 95)", () -> y.times(94, 95), 0);
        y.set(0, 31, 5);
        check.due("times(0, 95)", () -> y.times(0, 95), 1);
        check.due("the letter to the power 31", () -> y.at(1, 31), 4);
        check.due("over(1, 95, 0)", () -> y.over(1, 95, 0), 2);
        check.due("gcd(95, 0)", () -> y.gcd(95, 0), 3);
        check.due("factor(95, 0)", () -> y.factor(95, 0), 0);
        check.due("root(95, 0)", () -> y.root(95, 0), -1);
        check.due("root(0, 0)", () -> y.root(0, 0), 0);
    }

    private static void allAreZeroAtFirst() {
        check.says("all are 0 at first");
        // 16 rows are the 512 calls of one object.
        for (int first = 0; first < 96; first += 16) {
            ResidueRows x = new ResidueRows(7);
            for (int p = first; p < first + 16; p++) {
                check.row("new", x, p);
            }
        }
    }

    private static void zeroIsTheFirstNumber() {
        check.says("poly() and whatever makes a polynomial gives it the next number, 0 first.");
        check.due("poly()", () -> new ResidueRows(7).poly(), 0);
        check.due("times", () -> new ResidueRows(7).times(50, 50), 0);
        check.due("gcd", () -> new ResidueRows(7).gcd(50, 50), 0);
        ResidueRows over = new ResidueRows(7);
        over.set(50, 0, 1);
        check.due("over", () -> over.over(50, 50, 0), 0);
        ResidueRows factor = new ResidueRows(7);
        factor.set(50, 1, 1);
        check.due("factor", () -> factor.factor(50, 0), 1);
        check.due("factorOf(0)", () -> factor.factorOf(0), 0);
        check.due("lift", () -> factor.lift(0, 2), 1);
        check.due("poly()", () -> factor.poly(), 2);
    }

    private static void makersGiveTheNextNumber() {
        ResidueRows x = new ResidueRows(7);
        // x^2 + 5 is (x + 3) (x + 4).
        check.due("poly", () -> Check.make(x, 5, 0, 1), 0);
        check.due("times", () -> x.times(0, 0), 1);
        check.due("over 0", () -> x.over(1, 0, 0), 2);
        check.due("over 1", () -> x.over(1, 0, 1), 3);
        check.due("gcd", () -> x.gcd(1, 0), 4);
        check.due("factor", () -> x.factor(4, 0), 2);
        check.due("factorOf(0)", () -> x.factorOf(0), 5);
        check.due("factorOf(1)", () -> x.factorOf(1), 6);
        check.due("lift", () -> x.lift(1, 3), 7);
        check.due("inverse makes none", () -> x.inverse(3), 5);
        check.due("root makes none", () -> x.root(0, 1), 4);
        check.due("set makes none", () -> x.set(90, 0, 1), true);
        check.due("at makes none", () -> x.at(90, 0), 1);
        check.due("poly", () -> x.poly(), 8);
    }

    private static void coefficientsStayBelowThePrime() {
        check.says("Coefficients are 0 .. the prime less 1");
        int[] primes = {2, 3, 31, 65537, 2147483629, Integer.MAX_VALUE};
        for (int prime : primes) {
            ResidueRows x = new ResidueRows(prime);
            Check.make(x, -1, prime - 1, prime, -prime, Integer.MIN_VALUE, Integer.MAX_VALUE, -1);
            Check.make(x, -1, -1, -1, -1);
            x.times(0, 0);
            x.over(2, 1, 0);
            x.over(2, 1, 1);
            x.gcd(2, 1);
            int count = x.factor(0, 0);
            check.due("there are factors", () -> count > 0, true);
            for (int p = 0; p < 6 + count; p++) {
                for (int k = 0; k < 32; k++) {
                    int value = x.at(p, k);
                    check.due("at(" + p + ", " + k + ") is 0 .. the prime less 1", () -> value >= 0 && value < prime,
                            true);
                }
            }
        }
    }

    private static void liftedCoefficientsStayBelowThePower() {
        check.says(LIFTED_COUNTS);
        int[][] powers = {{2, 30}, {3, 19}, {7, 11}, {46337, 2}};
        for (int[] pair : powers) {
            int prime = pair[0];
            long modulus = new Model(prime).modulus(pair[1]);
            ResidueRows x = new ResidueRows(prime);
            // x (x^3 + x - 1): the part behind x has at least one factor of its own, and none twice.
            Check.make(x, 0, -1, 1, 0, 1);
            int count = x.factor(0, 0);
            for (int k = 0; k < count; k++) {
                int p = x.lift(k, pair[1]);
                for (int i = 0; i < 32; i++) {
                    int value = x.at(p, i);
                    check.due("at(" + p + ", " + i + ") is 0 .. the power less 1", () -> value >= 0 && value < modulus,
                            true);
                }
            }
        }
    }

    /** x^2 + 5 is (x + 3) (x + 4) modulo 7, and (x + 17) (x + 32) modulo 49. */
    private static void liftedTakesPartModuloThePrime() {
        check.says(LIFTED_COUNTS);
        ResidueRows x = new ResidueRows(7);
        int p = Check.make(x, 5, 0, 1);
        x.factor(p, 0);
        int a = x.lift(0, 2);
        int b = x.lift(1, 2);
        int one = Check.make(x, 1);
        check.row("times, both lifted", x, x.times(a, b), 5, 0, 1);
        check.row("times, the first lifted", x, x.times(a, one), 3, 1);
        check.row("times, the second lifted", x, x.times(one, b), 4, 1);
        check.row("over, the first lifted", x, x.over(a, one, 0), 3, 1);
        check.row("over, the second lifted", x, x.over(p, b, 0), 3, 1);
        check.row("the rest, the first lifted", x, x.over(a, p, 1), 3, 1);
        check.row("the rest, both lifted", x, x.over(a, b, 1), 6);
        check.row("gcd, the first lifted", x, x.gcd(a, p), 3, 1);
        check.row("gcd, the second lifted", x, x.gcd(p, b), 4, 1);
        check.due("root", () -> x.root(a, 0), 4);
        check.due("root behind the last", () -> x.root(a, 1), -1);
        check.row("at() tells it as it is all the while", x, a, 17, 1);
        check.row("at() tells it as it is all the while", x, b, 32, 1);
        int factored = x.factor(a, 0);
        check.due("factor", () -> factored, 1);
        check.row("its factor", x, x.factorOf(0), 3, 1);
        check.row("lifted again, as the residues that were factored", x, x.lift(0, 2), 3, 1);
    }

    private static void degreeOfZero() {
        check.says("The DEGREE is the highest power that has a coefficient other than 0; -1 of a polynomial 0.");
        ResidueRows x = new ResidueRows(7);
        x.poly();
        x.set(0, 31, 1);
        x.poly();
        Check.make(x, 3);
        check.due("degrees 31 and -1 are not above 31", () -> x.times(0, 1), 3);
        check.row("their product", x, 3);
        check.due("degrees -1 and 31", () -> x.times(1, 0), 4);
        check.due("degrees 31 and 0", () -> x.times(0, 2), 5);
        check.due("a rest below degree 0", () -> x.over(0, 2, 1), 6);
        check.row("is 0", x, 6);
        Check.leave(x, 0);
        check.due("-1 isn't above the numbers left", () -> x.factor(1, 0), -1);
        check.due("nor is 0", () -> x.factor(2, 0), 0);
    }

    private static void degreeFallsWithTheHighestCoefficient() {
        ResidueRows x = new ResidueRows(7);
        x.poly();
        x.set(0, 16, 1);
        x.set(0, 15, 1);
        check.illegalArgument("degree 16 twice", () -> x.times(0, 0));
        x.set(0, 16, 7);
        check.due("degree 15 twice", () -> x.times(0, 0), 1);
        check.due("at(1, 30)", () -> x.at(1, 30), 1);
        x.set(0, 15, -7);
        check.due("degree -1 twice", () -> x.times(0, 0), 2);
        check.arithmetic("through degree -1", () -> x.over(1, 0, 0));
        check.due("factor of degree -1", () -> x.factor(0, 0), -1);
    }

    private static void monic() {
        check.says("MONIC is one whose coefficient at its degree is 1, or 0.");
        ResidueRows x = new ResidueRows(7);
        Check.make(x, 6, 4);
        Check.make(x, 5);
        check.row("gcd(0, 0)", x, x.gcd(0, 0), 5, 1);
        check.row("gcd of a constant", x, x.gcd(1, 1), 1);
        check.row("gcd of 0 and 0", x, x.gcd(90, 91));
        x.factor(0, 0);
        check.row("factor", x, x.factorOf(0), 5, 1);
        check.row("lifted", x, x.lift(0, 1), 5, 1);
        int lifted = x.lift(0, 2);
        check.due("lifted", () -> x.at(lifted, 1), 1);
    }

    /** With one number left each maker gets 95; then none is left. */
    private static void theLastNumber() {
        check.says("IllegalStateException: no number is left (95 was given), or as said");
        last("poly", x -> x.poly());
        last("times", x -> x.times(0, 1));
        last("times of 0", x -> x.times(2, 2));
        last("over", x -> x.over(0, 1, 0));
        last("over, the rest", x -> x.over(0, 1, 1));
        last("gcd", x -> x.gcd(0, 1));
        last("gcd of 0 and 0", x -> x.gcd(2, 2));
        last("lift", x -> x.lift(0, 2));
        last("lift to the power 1", x -> x.lift(1, 1));
        last("factor", x -> x.factor(1, 0) == 1 ? x.factorOf(0) : -2);
    }

    private static void last(String name, Twin.On maker) {
        ResidueRows x = new ResidueRows(7);
        Check.make(x, 5, 0, 1);
        Check.make(x, 2, 1);
        Check.make(x);
        x.factor(0, 0);
        Check.leave(x, 1);
        x.set(95, 31, 6);
        check.due(name + " with one number left", () -> maker.answer(x), 95);
        check.due("and the polynomial is made", () -> x.at(95, 31), 0);
        x.set(95, 31, 6);
        check.illegalState(name + " with none left", () -> maker.answer(x));
        check.due("and the polynomial stays", () -> x.at(95, 31), 6);
        check.illegalState(name + ", then poly", () -> x.poly());
        check.illegalState(name + ", then times", () -> x.times(2, 2));
        check.illegalState(name + ", then over", () -> x.over(1, 1, 0));
        check.illegalState(name + ", then gcd", () -> x.gcd(0, 1));
        check.illegalState(name + ", then lift", () -> x.lift(0, 1));
        check.illegalState(name + ", then factor", () -> x.factor(1, 0));
    }
}
