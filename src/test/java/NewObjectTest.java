/** Promise 1: a new object. */
final class NewObjectTest {
    private static final Check check = new Check();

    public static void main(String[] args) {
        check.says("THE PRIME is the greatest one that isn't above the number given; 2 if that is below 2.");
        belowTwo();
        primes();
        noPrimes();
        greatest();
        allSmall();
        blank();
        check.end();
    }

    private static void prime(int number, int prime) {
        ResidueRows x = new ResidueRows(number);
        x.set(0, 0, -1);
        check.due("the prime of " + number + " less 1", () -> x.at(0, 0), prime - 1);
        check.arithmetic("inverse of the prime of " + number, () -> x.inverse(prime));
        check.due("root(1, ..) of 0 at the prime of " + number + " less 1", () -> x.root(1, prime - 1), prime - 1);
        check.due("root(1, ..) of 0 at the prime of " + number, () -> x.root(1, prime), -1);
    }

    private static void belowTwo() {
        prime(1, 2);
        prime(0, 2);
        prime(-1, 2);
        prime(-2, 2);
        prime(-7, 2);
        prime(-Integer.MAX_VALUE, 2);
        prime(Integer.MIN_VALUE, 2);
    }

    private static void primes() {
        prime(2, 2);
        prime(3, 3);
        prime(65537, 65537);
        prime(46337, 46337);
        prime(2147483629, 2147483629);
    }

    private static void noPrimes() {
        prime(4, 3);
        prime(9, 7);
        prime(25, 23);
        prime(49, 47);
        prime(121, 113);
        prime(65536, 65521);
        // The squares of the two greatest primes below the square root of 2^31
        prime(46337 * 46337, 2147117563);
        prime(46327 * 46327, 2146190887);
        // The longest stretches without a prime that end below 2^15 and below 2^31
        prime(31468, 31397);
        prime(1453168432, 1453168141);
    }

    private static void greatest() {
        prime(Integer.MAX_VALUE, Integer.MAX_VALUE);
        prime(Integer.MAX_VALUE - 1, 2147483629);
        prime(2147483630, 2147483629);
    }

    private static void allSmall() {
        for (int n = 2; n < 3000; n++) {
            prime(n, new Model(n).prime);
        }
    }

    private static void blank() {
        check.says("All polynomials are 0, nothing was factored.");
        ResidueRows x = new ResidueRows(5);
        for (int p = 0; p < 96; p += 19) {
            check.row("new", x, p);
        }
        check.outOfBounds("factorOf(0)", () -> x.factorOf(0));
        check.outOfBounds("multiplicity(0)", () -> x.multiplicity(0));
        check.outOfBounds("lift(0, 1)", () -> x.lift(0, 1));
        check.due("a polynomial 0 is factored: still nothing", () -> x.factor(0, 0), -1);
        check.outOfBounds("factorOf(0)", () -> x.factorOf(0));
        check.due("poly()", () -> x.poly(), 0);
    }
}
