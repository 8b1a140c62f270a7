/** Promise 1: a new object. */
final class NewObjectTest {
    private static void prime(Check check, int number, int prime) {
        ResidueRows x = new ResidueRows(number);
        x.set(0, 0, -1);
        check.due("the prime of " + number + " less 1", () -> x.at(0, 0), prime - 1);
        check.arithmetic("inverse of the prime of " + number, () -> x.inverse(prime));
    }

    public static void main(String[] args) {
        Check check = new Check();
        prime(check, Integer.MIN_VALUE, 2);
        prime(check, -7, 2);
        prime(check, 0, 2);
        prime(check, 1, 2);
        prime(check, 2, 2);
        prime(check, 3, 3);
        prime(check, 4, 3);
        prime(check, 9, 7);
        prime(check, 25, 23);
        prime(check, 49, 47);
        prime(check, 121, 113);
        prime(check, 65536, 65521);
        prime(check, 65537, 65537);
        // The squares of the two greatest primes below the square root of 2^31
        prime(check, 46337 * 46337, 2147117563);
        prime(check, 46327 * 46327, 2146190887);
        prime(check, 2147483646, 2147483629);
        prime(check, Integer.MAX_VALUE, Integer.MAX_VALUE);
        for (int n = 2; n < 3000; n++) {
            prime(check, n, new Model(n).prime);
        }
        ResidueRows x = new ResidueRows(5);
        for (int p = 0; p < 96; p += 19) {
            check.row("new", x, p);
        }
        check.outOfBounds("factorOf(0)", () -> x.factorOf(0));
        check.outOfBounds("multiplicity(0)", () -> x.multiplicity(0));
        check.outOfBounds("lift(0, 1)", () -> x.lift(0, 1));
        check.due("poly()", () -> x.poly(), 0);
        check.end();
    }
}
