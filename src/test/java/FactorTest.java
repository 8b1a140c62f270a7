import java.util.Arrays;

/** Promises 7, 8 and 9: factor, factorOf and multiplicity. */
final class FactorTest {
    private static final int GREATEST = Integer.MAX_VALUE;

    private static final Check check = new Check();

    public static void main(String[] args) {
        ordinary();
        order();
        allMonicOfDegreeFive();
        polynomialZero();
        constant();
        degreeOne();
        degreeThirtyOne();
        numbersLeft();
        anySeed();
        primeTwo();
        greatestPrime();
        multiplesOfThePrime();
        changedAfterwards();
        nothingFactored();
        belowZeroAndAtTheCount();
        ownRowIsOverwritten();
        oneAfterAnother();
        wrong();
        check.end();
    }

    /** What factor answers, and that the factors behind it have these multiplicities. */
    private static void factors(String name, ResidueRows x, int p, int... multiplicities) {
        check.due(name + ": factor", () -> x.factor(p, 0), multiplicities.length);
        for (int k = 0; k < multiplicities.length; k++) {
            int which = k;
            check.due(name + ": multiplicity(" + k + ")", () -> x.multiplicity(which), multiplicities[k]);
        }
        check.outOfBounds(name + ": multiplicity behind the last", () -> x.multiplicity(multiplicities.length));
        check.outOfBounds(name + ": factorOf behind the last", () -> x.factorOf(multiplicities.length));
    }

    private static int product(ResidueRows x, int prime, int[] times, long[]... factors) {
        long[] all = {1};
        for (int i = 0; i < factors.length; i++) {
            for (int n = 0; n < times[i]; n++) {
                all = Naive.multiply(all, factors[i], prime);
            }
        }
        return Check.make(x, all);
    }

    /** 3 x^2 (x + 2) (x^2 + 1)^3 (x^2 + x + 3) modulo 7. */
    private static void ordinary() {
        check.says("How many factors a polynomial has; each gets the next number, in order");
        ResidueRows x = new ResidueRows(7);
        Check.make(x, 0, 0, 6, 3);
        Check.make(x, 1, 0, 1);
        Check.make(x, 3, 1, 1);
        int all = x.times(x.times(0, 2), x.times(x.times(1, 1), 1));
        factors("ordinary", x, all, 2, 1, 3, 1);
        for (int k = 0; k < 4; k++) {
            int which = k;
            check.due("factorOf(" + k + ")", () -> x.factorOf(which), all + 1 + k);
        }
        check.row("factor 0", x, all + 1, 0, 1);
        check.row("factor 1", x, all + 2, 2, 1);
        check.row("factor 2", x, all + 3, 1, 0, 1);
        check.row("factor 3", x, all + 4, 3, 1, 1);
        check.due("the next number", () -> x.poly(), all + 5);
    }

    private static void order() {
        check.says("in order: by degrees, of the same degree by the coefficient at the highest power where they differ.");
        long[][] inOrder = {{0, 1}, {6, 1}, {1, 0, 1}, {2, 0, 1}, {4, 0, 1}, {3, 1, 1}, {4, 1, 1}, {3, 6, 1},
            {2, 0, 0, 1}};
        ResidueRows x = new ResidueRows(7);
        int p = product(x, 7, new int[] {1, 1, 1, 1, 1, 1, 1, 1, 1}, inOrder);
        factors("order", x, p, 1, 1, 1, 1, 1, 1, 1, 1, 1);
        for (int k = 0; k < inOrder.length; k++) {
            check.row("factor " + k, x, x.factorOf(k), inOrder[k]);
        }
    }

    private static void allMonicOfDegreeFive() {
        check.says("all monic polynomials of a degree above 0 that divide it and are no products of two such of lower "
                + "degrees");
        for (int n = 0; n < 243; n++) {
            ResidueRows x = new ResidueRows(3);
            Check.make(x, n % 3, n / 3 % 3, n / 9 % 3, n / 27 % 3, n / 81 % 3, 1);
            Model model = new Model(3);
            model.rows[0] = Arrays.copyOf(Naive.row(x, 0), 32);
            model.next = 1;
            check.due("factor", () -> x.factor(0, 0), model.factor(0));
            for (int k = 0; k < model.factors.size(); k++) {
                int which = k;
                check.row("factor of " + n, x, k + 1, model.factors.get(k));
                check.due("multiplicity", () -> x.multiplicity(which), model.exponents.get(k));
            }
        }
    }

    private static void polynomialZero() {
        check.says("-1 of a polynomial 0 (then what was factored stays)");
        ResidueRows x = new ResidueRows(7);
        check.due("of a new object", () -> x.factor(0, 0), -1);
        check.outOfBounds("nothing was factored, and stays so", () -> x.factorOf(0));
        int p = product(x, 7, new int[] {1, 2}, new long[] {1, 1}, new long[] {3, 1});
        factors("something", x, p, 1, 2);
        check.due("of a polynomial 0", () -> x.factor(90, 1), -1);
        x.set(p, 0, 0);
        x.set(p, 1, 7);
        x.set(p, 2, -7);
        x.set(p, 3, 0);
        check.due("of what became 0", () -> x.factor(p, 1), -1);
        check.due("factorOf(0)", () -> x.factorOf(0), 1);
        check.due("factorOf(1)", () -> x.factorOf(1), 2);
        check.due("multiplicity(0)", () -> x.multiplicity(0), 1);
        check.due("multiplicity(1)", () -> x.multiplicity(1), 2);
        check.outOfBounds("factorOf(2)", () -> x.factorOf(2));
        check.due("lift(0, 1)", () -> x.lift(0, 1), 3);
        check.row("the factor", x, 3, 1, 1);
        check.due("no number was given", () -> x.poly(), 4);
    }

    private static void constant() {
        check.says("THE FACTORS of a polynomial that isn't 0: all monic polynomials of a degree above 0 that divide it");
        int[] primes = {2, 7, GREATEST};
        for (int prime : primes) {
            ResidueRows x = new ResidueRows(prime);
            Check.make(x, 1, 1);
            Check.make(x, 1);
            Check.make(x, -1);
            factors("x + 1", x, 0, 1);
            factors("the constant 1", x, 1);
            check.outOfBounds("lift(0, 1)", () -> x.lift(0, 1));
            factors("x + 1", x, 0, 1);
            factors("the prime less 1", x, 2);
            check.due("they got no numbers", () -> x.poly(), 5);
        }
    }

    private static void degreeOne() {
        check.says("How many factors a polynomial has; each gets the next number, in order");
        int[] primes = {2, 3, 7, 65537, GREATEST};
        for (int prime : primes) {
            ResidueRows x = new ResidueRows(prime);
            Check.make(x, 0, 1);
            Check.make(x, -1, 1);
            Check.make(x, 1, -1);
            Check.make(x, 0, -1);
            factors("x", x, 0, 1);
            check.row("x", x, x.factorOf(0), 0, 1);
            factors("x - 1", x, 1, 1);
            check.row("x - 1", x, x.factorOf(0), prime - 1, 1);
            factors("1 - x", x, 2, 1);
            check.row("x - 1", x, x.factorOf(0), prime - 1, 1);
            factors("- x", x, 3, 1);
            check.row("x", x, x.factorOf(0), 0, 1);
        }
        ResidueRows x = new ResidueRows(7);
        Check.make(x, 2, 3);
        factors("3 x + 2", x, 0, 1);
        check.row("x + 3", x, 1, 3, 1);
    }

    private static void degreeThirtyOne() {
        int[] primes = {31, 37, 65537, GREATEST};
        for (int prime : primes) {
            ResidueRows x = new ResidueRows(prime);
            long[] row = {5};
            int[] once = new int[31];
            for (int i = 0; i < 31; i++) {
                row = Naive.multiply(row, new long[] {i, 1}, prime);
                once[i] = 1;
            }
            Check.make(x, row);
            factors("all linear", x, 0, once);
            for (int k = 0; k < 31; k++) {
                int which = k;
                check.due("factorOf(" + k + ")", () -> x.factorOf(which), 1 + k);
                check.due("factor " + k, () -> x.at(x.factorOf(which), 0), k);
            }
            check.due("the next number", () -> x.poly(), 32);
        }
        ResidueRows two = new ResidueRows(2);
        Check.make(two, 1, 0, 0, 1);
        two.set(0, 31, 1);
        factors("x^31 + x^3 + 1 modulo 2, that has no divisor", two, 0, 1);
        check.due("itself, at 0", () -> two.at(1, 0), 1);
        check.due("itself, at 3", () -> two.at(1, 3), 1);
        check.due("itself, at 31", () -> two.at(1, 31), 1);
        int[] all = {2, 3, 31, GREATEST};
        for (int prime : all) {
            ResidueRows x = new ResidueRows(prime);
            x.set(x.poly(), 31, -1);
            factors("- x^31 modulo " + prime, x, 0, 31);
            check.row("x", x, 1, 0, 1);
        }
    }

    private static void numbersLeft() {
        check.says("IllegalStateException: there are less numbers left than its degree.");
        for (int degree = 1; degree < 32; degree++) {
            enough(degree);
            oneLess(degree);
        }
        ResidueRows x = new ResidueRows(5);
        Check.make(x, 1, 2, 1);
        Check.make(x, 3);
        Check.leave(x, 2);
        factors("two numbers are left for degree 2", x, 0, 2);
        check.due("its number", () -> x.factorOf(0), 94);
        check.illegalState("one is left for degree 2, though it has one factor", () -> x.factor(0, 0));
        check.due("what was factored stays", () -> x.multiplicity(0), 2);
        check.due("one is left for degree 1", () -> x.factor(94, 0), 1);
        check.due("its number", () -> x.factorOf(0), 95);
        check.illegalState("none is left for degree 1", () -> x.factor(94, 0));
        check.illegalState("none is left for degree 2", () -> x.factor(0, 0));
        check.outOfBounds("none is left, and no such polynomial", () -> x.factor(96, 0));
        check.due("a polynomial 0 needs none", () -> x.factor(2, 0), -1);
        check.due("what was factored stays", () -> x.factorOf(0), 95);
        check.due("a constant needs none", () -> x.factor(1, 0), 0);
        check.outOfBounds("nothing is left of what was factored", () -> x.factorOf(0));
    }

    /** All of the numbers that are left are needed for linear factors. */
    private static void enough(int degree) {
        ResidueRows x = linear(degree);
        Check.leave(x, degree);
        int[] once = new int[degree];
        Arrays.fill(once, 1);
        factors("as many numbers left as the degree " + degree, x, 0, once);
        check.due("the last number", () -> x.factorOf(degree - 1), 95);
        check.illegalState("none is left", () -> x.poly());
    }

    private static void oneLess(int degree) {
        ResidueRows x = linear(degree);
        x.set(1, 1, 1);
        Check.leave(x, degree - 1);
        check.illegalState("one number less left than the degree " + degree, () -> x.factor(0, 0));
        check.outOfBounds("nothing was factored", () -> x.factorOf(0));
        check.due("no number was given", () -> degree == 1 ? 96 : x.poly(), 97 - degree);
    }

    private static ResidueRows linear(int degree) {
        ResidueRows x = new ResidueRows(37);
        long[] row = {1};
        for (int i = 0; i < degree; i++) {
            row = Naive.multiply(row, new long[] {i, 1}, 37);
        }
        Check.make(x, row);
        return x;
    }

    private static void anySeed() {
        check.says("The seed changes nothing.");
        long[] seeds = {0, 1, -1, 77, 1L << 32, Long.MIN_VALUE, Long.MAX_VALUE};
        int[] primes = {2, 101, GREATEST};
        for (int prime : primes) {
            String first = null;
            for (long seed : seeds) {
                ResidueRows x = new ResidueRows(prime);
                Check.make(x, 5, 4, 3, 2, 1, 17, 23, 51, 4, 4, 4, 4, 4, 4, 99);
                int count = x.factor(0, seed);
                StringBuilder answers = new StringBuilder().append(count);
                for (int k = 0; k < count; k++) {
                    answers.append(Arrays.toString(Naive.row(x, x.factorOf(k)))).append(x.multiplicity(k));
                }
                first = first == null ? answers.toString() : first;
                check.same("with the seed " + seed, answers.toString(), first);
            }
        }
    }

    /** All polynomials without a divisor modulo 2 up to degree 4, and powers of them. */
    private static void primeTwo() {
        check.says("How many factors a polynomial has; each gets the next number, in order");
        long[][] inOrder = {{0, 1}, {1, 1}, {1, 1, 1}, {1, 1, 0, 1}, {1, 0, 1, 1}, {1, 1, 0, 0, 1}, {1, 0, 0, 1, 1},
            {1, 1, 1, 1, 1}};
        ResidueRows x = new ResidueRows(2);
        int p = product(x, 2, new int[] {1, 1, 1, 1, 1, 1, 1, 1}, inOrder);
        factors("modulo 2", x, p, 1, 1, 1, 1, 1, 1, 1, 1);
        for (int k = 0; k < inOrder.length; k++) {
            check.row("factor " + k, x, x.factorOf(k), inOrder[k]);
        }
        ResidueRows y = new ResidueRows(2);
        int q = product(y, 2, new int[] {3, 5, 1, 2, 3}, inOrder[0], inOrder[1], inOrder[2], inOrder[3], inOrder[4]);
        factors("powers modulo 2", y, q, 3, 5, 1, 2, 3);
    }

    /** x^2 + 1 has no root modulo 2^31 - 1, that is 3 modulo 4. */
    private static void greatestPrime() {
        long[][] inOrder = {{0, 1}, {1, 1}, {GREATEST - 2, 1}, {GREATEST - 1, 1}, {1, 0, 1}, {2, 2, 1},
            {2, GREATEST - 2, 1}};
        ResidueRows x = new ResidueRows(GREATEST);
        int p = product(x, GREATEST, new int[] {1, 2, 3, 4, 5, 1, 2}, inOrder);
        factors("modulo the greatest prime", x, p, 1, 2, 3, 4, 5, 1, 2);
        for (int k = 0; k < inOrder.length; k++) {
            check.row("factor " + k, x, x.factorOf(k), inOrder[k]);
        }
    }

    private static void multiplesOfThePrime() {
        check.says("The MULTIPLICITY of one is how often it divides.");
        powers(2, new int[] {2, 4, 6}, new long[] {0, 1}, new long[] {1, 1}, new long[] {1, 1, 1});
        powers(2, new int[] {16, 7, 4}, new long[] {0, 1}, new long[] {1, 1}, new long[] {1, 1, 1});
        powers(2, new int[] {8, 2}, new long[] {1, 1, 0, 1}, new long[] {1, 0, 1, 1});
        powers(2, new int[] {31}, new long[] {1, 1});
        powers(2, new int[] {30, 1}, new long[] {0, 1}, new long[] {1, 1});
        powers(3, new int[] {3, 9, 6}, new long[] {0, 1}, new long[] {1, 1}, new long[] {1, 0, 1});
        powers(3, new int[] {27, 3}, new long[] {1, 1}, new long[] {2, 1});
        powers(3, new int[] {18, 1, 6}, new long[] {0, 1}, new long[] {1, 1}, new long[] {1, 0, 1});
        powers(5, new int[] {25, 5}, new long[] {1, 1}, new long[] {2, 1});
        powers(5, new int[] {1, 10, 15}, new long[] {0, 1}, new long[] {3, 1}, new long[] {4, 1});
        powers(7, new int[] {14, 7, 3}, new long[] {0, 1}, new long[] {1, 1}, new long[] {1, 0, 1});
        powers(13, new int[] {13, 2, 13}, new long[] {0, 1}, new long[] {1, 1}, new long[] {2, 1});
        powers(29, new int[] {29, 1}, new long[] {3, 1}, new long[] {4, 1});
        powers(31, new int[] {31}, new long[] {1, 1});
    }

    private static void powers(int prime, int[] times, long[]... factors) {
        ResidueRows x = new ResidueRows(prime);
        int p = product(x, prime, times, factors);
        factors("powers modulo " + prime + ", " + Arrays.toString(times), x, p, times);
        for (int k = 0; k < times.length; k++) {
            check.row("factor " + k + " modulo " + prime, x, x.factorOf(k), factors[k]);
        }
    }

    private static void changedAfterwards() {
        check.says("The number of factor k, from 0 on, of the polynomial that was factored latest (the number: the "
                + "polynomial may be another one by now).");
        ResidueRows x = new ResidueRows(7);
        int p = product(x, 7, new int[] {2, 1}, new long[] {1, 1}, new long[] {3, 1});
        factors("something", x, p, 2, 1);
        x.set(1, 0, 5);
        x.set(2, 1, 0);
        x.set(p, 5, 1);
        check.due("the number of what was changed", () -> x.factorOf(0), 1);
        check.due("the number of what became a constant", () -> x.factorOf(1), 2);
        check.row("changed", x, 1, 5, 1);
        check.due("its multiplicity", () -> x.multiplicity(0), 2);
        check.due("its multiplicity", () -> x.multiplicity(1), 1);
        check.says("Its multiplicity.");
        int q = product(x, 7, new int[] {1, 3}, new long[] {2, 1}, new long[] {5, 1});
        factors("the latest one counts", x, q, 1, 3);
        check.due("factorOf(0)", () -> x.factorOf(0), q + 1);
        check.due("factorOf(1)", () -> x.factorOf(1), q + 2);
    }

    private static void nothingFactored() {
        check.says("All polynomials are 0, nothing was factored.");
        ResidueRows x = new ResidueRows(7);
        int[] wrongs = {0, -1, 1, 30, 31, 32, Integer.MIN_VALUE, Integer.MAX_VALUE};
        for (int k : wrongs) {
            check.outOfBounds("factorOf(" + k + ")", () -> x.factorOf(k));
            check.outOfBounds("multiplicity(" + k + ")", () -> x.multiplicity(k));
        }
        Check.make(x, 3, 1);
        x.root(0, 0);
        check.outOfBounds("a root asked for is nothing factored", () -> x.factorOf(0));
        check.outOfBounds("a root asked for is nothing factored", () -> x.multiplicity(0));
    }

    private static void belowZeroAndAtTheCount() {
        check.says("ArrayIndexOutOfBoundsException: no such polynomial, coefficient, or factor");
        ResidueRows x = new ResidueRows(7);
        int p = product(x, 7, new int[] {2, 1}, new long[] {1, 1}, new long[] {3, 1});
        factors("two factors", x, p, 2, 1);
        int[] wrongs = {-1, 2, 3, 31, 32, Integer.MIN_VALUE, Integer.MAX_VALUE};
        for (int k : wrongs) {
            check.outOfBounds("factorOf(" + k + ")", () -> x.factorOf(k));
            check.outOfBounds("multiplicity(" + k + ")", () -> x.multiplicity(k));
        }
        Check.make(x, 3, 1);
        factors("then one factor", x, 3, 1);
    }

    private static void ownRowIsOverwritten() {
        check.says("poly() and whatever makes a polynomial gives it the next number, 0 first.");
        ResidueRows x = new ResidueRows(5);
        Check.fill(x, 0, 0, 3, 2);
        check.due("factor(0, 0)", () -> x.factor(0, 0), 2);
        check.row("factor 0", x, 0, 0, 1);
        check.row("factor 1", x, 1, 4, 1);
    }

    /** Whatever was factored ahead on the same object, higher and lower ones, leaves no trace. */
    private static void oneAfterAnother() {
        check.says("The number of factor k, from 0 on, of the polynomial that was factored latest (the number: the "
                + "polynomial may be another one by now).");
        int[] primes = {2, 3, 5, 7, 31, 65537, GREATEST};
        java.util.Random random = new java.util.Random(9);
        for (int run = 0; run < 70; run++) {
            int prime = primes[run % primes.length];
            ResidueRows used = new ResidueRows(prime);
            int[] degrees = {31, 5, 12, 3};
            for (int degree : degrees) {
                long[] row = new long[degree + 1];
                for (int k = 0; k <= degree; k++) {
                    row[k] = random.nextInt(4) - 1;
                }
                row[degree] = 1;
                ResidueRows fresh = new ResidueRows(prime);
                check.same("factors modulo " + prime + " of " + Arrays.toString(row),
                        told(used, Check.make(used, row), degree), told(fresh, Check.make(fresh, row), degree));
            }
        }
    }

    /** The factors and how often they divide, with few calls: a factor has no coefficients above the degree left. */
    private static String told(ResidueRows x, int p, int degree) {
        StringBuilder all = new StringBuilder();
        int count = x.factor(p, 0);
        int left = degree;
        for (int k = 0; k < count; k++) {
            int number = x.factorOf(k);
            int times = Math.max(x.multiplicity(k), 1);
            all.append(x.multiplicity(k)).append(':');
            for (int i = 0; i <= left / times; i++) {
                all.append(x.at(number, i)).append(' ');
            }
            left -= times;
        }
        return all.toString();
    }

    private static void wrong() {
        check.says("ArrayIndexOutOfBoundsException: no such polynomial, coefficient, or factor");
        ResidueRows x = new ResidueRows(5);
        int[] wrongs = {-1, 96, Integer.MIN_VALUE, Integer.MAX_VALUE};
        for (int p : wrongs) {
            check.outOfBounds("factor(" + p + ", 0)", () -> x.factor(p, 0));
        }
    }
}
