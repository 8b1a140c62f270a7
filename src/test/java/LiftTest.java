/** Promise 13: lift. */
final class LiftTest {
    private static final Check check = new Check();

    public static void main(String[] args) {
        check.says("Factor k lifted to the prime to the power given: the number of that polynomial");
        ordinary();
        powerOne();
        anotherLead();
        check.says("A factor of multiplicity 1 has just one monic polynomial modulo Q, of the same degree, that is the "
                + "factor modulo the prime and divides M modulo Q.");
        many();
        onlyOneFactor();
        check.says("LIFTING: F is the polynomial that was factored latest (as it was then)");
        changedAfterwards();
        factoredAgain();
        check.says("IllegalArgumentException: power is below 1, or the prime to that power is above 2147483647.");
        powerBelowOne();
        greatestPowers();
        check.says("-1 if its multiplicity isn't 1 (what is thrown, also that no number is left, goes ahead of that)");
        multiplicityAboveOne();
        multiplicityAboveOneAndThrown();
        check.says("ArrayIndexOutOfBoundsException: no such polynomial, coefficient, or factor");
        noSuchFactor();
        check.end();
    }

    /** x^2 + 5 is (x + 3) (x + 4) modulo 7. */
    private static void ordinary() {
        ResidueRows x = new ResidueRows(7);
        Check.make(x, 5, 0, 1);
        x.factor(0, 0);
        check.due("lift(0, 3)", () -> x.lift(0, 3), 3);
        check.due("lift(1, 3)", () -> x.lift(1, 3), 4);
        long a = x.at(3, 0);
        long b = x.at(4, 0);
        check.row("monic, of degree 1", x, 3, a, 1);
        check.row("monic, of degree 1", x, 4, b, 1);
        check.due("sum", () -> (a + b) % 343, 0);
        check.due("product", () -> a * b % 343, 5);
        check.due("factor 0", () -> a % 7, 3);
        check.due("factor 1", () -> b % 7, 4);
    }

    private static void powerOne() {
        int[] primes = {2, 7, 46349, Integer.MAX_VALUE};
        for (int prime : primes) {
            ResidueRows x = new ResidueRows(prime);
            Check.make(x, 0, -1, -1);
            x.factor(0, 0);
            check.due("lift(0, 1)", () -> x.lift(0, 1), 3);
            check.row("the factor itself", x, 3, 0, 1);
            check.due("lift(1, 1)", () -> x.lift(1, 1), 4);
            check.row("the factor itself", x, 4, 1, 1);
        }
    }

    private static void anotherLead() {
        check.says("M is F through its coefficient at its degree, modulo a power Q of the prime (the coefficients being "
                + "taken as whole numbers below the prime).");
        ResidueRows x = new ResidueRows(5);
        // 3 x^2 + 3 is 3 (x + 2) (x + 3); through 3 it is x^2 + 1, with the roots 7 and 18 modulo 25.
        Check.make(x, 3, 0, 3);
        x.factor(0, 0);
        check.row("x + 2", x, x.lift(0, 2), 7, 1);
        check.row("x + 3", x, x.lift(1, 2), 18, 1);
        // 3 x^2 + 2 is 3 (x + 1) (x + 4); through 3 it is x^2 + 9, with the roots 4 and 21 modulo 25.
        int p = Check.make(x, 2, 0, 3);
        x.factor(p, 0);
        check.row("x + 1", x, x.lift(0, 2), 21, 1);
        check.row("x + 4", x, x.lift(1, 2), 4, 1);
        // 2 x + 1 is 2 (x + 3): through 2 it is x + 13 modulo 25, and x + 313 modulo 625.
        int q = Check.make(x, 1, 2);
        x.factor(q, 0);
        check.row("x + 3", x, x.lift(0, 1), 3, 1);
        check.row("x + 3", x, x.lift(0, 2), 13, 1);
        check.row("x + 3", x, x.lift(0, 4), 313, 1);
    }

    private static void many() {
        int[] primes = {2, 3, 5, 7, 31, 101, 1009, 46337, 1000003, Integer.MAX_VALUE};
        java.util.Random random = new java.util.Random(13);
        for (int prime : primes) {
            for (int run = 0; run < 30; run++) {
                ResidueRows x = new ResidueRows(prime);
                x.poly();
                int degree = run < 5 ? 31 : 1 + random.nextInt(31);
                for (int k = 0; k <= degree; k++) {
                    x.set(0, k, random.nextInt());
                }
                liftAll(x, prime, random);
            }
        }
    }

    private static void liftAll(ResidueRows x, int prime, java.util.Random random) {
        long[] whole = Naive.row(x, 0);
        int count = x.factor(0, 0);
        // More than six would take more than the 512 calls of one object.
        for (int k = 0; k < Math.min(count, 6); k++) {
            int which = k;
            int power = 1 + random.nextInt(30);
            long modulus = new Model(prime).modulus(power);
            if (modulus == 0) {
                power = 1 + (prime < 46341 ? 1 : 0);
                modulus = new Model(prime).modulus(power);
            }
            int to = power;
            long q = modulus;
            if (x.multiplicity(k) != 1) {
                check.due("lift", () -> x.lift(which, to), -1);
                continue;
            }
            int lifted = x.lift(k, power);
            check.due("lift(" + k + ", " + power + ") modulo " + prime, () -> Naive.isLifted(
                    Naive.row(x, lifted), Naive.row(x, x.factorOf(which)), whole, prime, q), true);
        }
    }

    /** What has no divisor is lifted to itself through its highest coefficient; so is one of degree 31. */
    private static void onlyOneFactor() {
        ResidueRows x = new ResidueRows(2);
        Check.make(x, 1, 0, 0, 1);
        x.set(0, 31, 1);
        x.factor(0, 0);
        check.due("lift(0, 30)", () -> x.lift(0, 30), 2);
        check.row("itself", x, 2, Naive.row(x, 0));
        ResidueRows y = new ResidueRows(7);
        Check.make(y, 2, 0, 2);
        y.factor(0, 0);
        check.row("x^2 + 1", y, y.lift(0, 11), 1, 0, 1);
    }

    private static void changedAfterwards() {
        ResidueRows x = new ResidueRows(5);
        // 2 (x + 1) (x^2 + 2)
        Check.make(x, 4, 4, 2, 2);
        int count = x.factor(0, 0);
        long[] whole = Naive.row(x, 0);
        long[] first = Naive.row(x, 1);
        long[] second = Naive.row(x, 2);
        check.due("factors", () -> count, 2);
        Check.fill(x, 0, 4, 4, 4, 4, 4);
        Check.fill(x, 1, 3, 2, 1, 4);
        Check.fill(x, 2, 0, 0, 0);
        check.due("multiplicity(0)", () -> x.multiplicity(0), 1);
        int lifted = x.lift(0, 4);
        check.due("as it was then", () -> Naive.isLifted(Naive.row(x, lifted), first, whole, 5, 625), true);
        int other = x.lift(1, 4);
        check.due("as it was then", () -> Naive.isLifted(Naive.row(x, other), second, whole, 5, 625), true);
        check.due("a polynomial 0 changes nothing", () -> x.factor(90, 0), -1);
        check.row("lifted again", x, x.lift(0, 4), Naive.row(x, lifted));
        x.root(1, 0);
        x.gcd(0, 1);
        x.times(1, 1);
        check.row("lifted again", x, x.lift(1, 4), Naive.row(x, other));
    }

    private static void factoredAgain() {
        ResidueRows x = new ResidueRows(7);
        int p = Check.make(x, 5, 0, 1);
        int q = Check.make(x, 6, 0, 1);
        x.factor(p, 0);
        x.factor(q, 0);
        // x^2 + 6 is (x + 22) (x + 27) modulo 49.
        check.row("x + 1 of the latest one", x, x.lift(0, 2), 22, 1);
        check.row("x + 6 of the latest one", x, x.lift(1, 2), 27, 1);
        Check.fill(x, q, 4, 0, 0);
        check.due("a constant", () -> x.factor(q, 0), 0);
        check.outOfBounds("has no factor to lift", () -> x.lift(0, 2));
        x.factor(p, 0);
        check.row("x + 3 of the first one", x, x.lift(0, 2), 17, 1);
        // What was lifted is factored as the residues that it counts as.
        int lifted = x.lift(1, 2);
        x.factor(lifted, 0);
        check.row("x + 4 alone", x, x.lift(0, 2), 4, 1);
    }

    private static void powerBelowOne() {
        int[] primes = {2, 7, Integer.MAX_VALUE};
        int[] powers = {0, -1, -2, -31, -32, Integer.MIN_VALUE, -Integer.MAX_VALUE};
        for (int prime : primes) {
            ResidueRows x = new ResidueRows(prime);
            Check.make(x, 1, 1);
            x.factor(0, 0);
            for (int power : powers) {
                check.illegalArgument("lift(0, " + power + ") modulo " + prime, () -> x.lift(0, power));
            }
            check.due("no number was given", () -> x.poly(), 2);
        }
    }

    private static void greatestPowers() {
        int[][] greatest = {{2, 30}, {3, 19}, {5, 13}, {7, 11}, {11, 8}, {13, 8}, {31, 6}, {37, 5}, {1289, 3}, {1291, 2},
            {46337, 2}, {46349, 1}, {65537, 1}, {2147483629, 1}, {Integer.MAX_VALUE, 1}};
        for (int[] pair : greatest) {
            int prime = pair[0];
            int power = pair[1];
            ResidueRows x = new ResidueRows(prime);
            // x (x^2 + x - 1): no factor is there twice but modulo 5.
            Check.make(x, 0, -1, 1, 1);
            long[] whole = Naive.row(x, 0);
            int count = x.factor(0, 0);
            long modulus = new Model(prime).modulus(power);
            for (int k = 0; k < count; k++) {
                int which = k;
                long[] factor = Naive.row(x, x.factorOf(k));
                int number = x.multiplicity(k) == 1 ? x.lift(k, power) : x.poly();
                check.due("prime " + prime + ", lift(" + k + ", " + power + ")", () -> x.multiplicity(which) != 1
                        || Naive.isLifted(Naive.row(x, number), factor, whole, prime, modulus), true);
            }
            check.due("prime " + prime + ", x lifted", () -> x.at(1 + count, 1), 1);
            int[] tooGreat = {power + 1, power + 2, 31, 32, 33, 64, 65, 1 << 30, Integer.MAX_VALUE - 1,
                Integer.MAX_VALUE};
            for (int more : tooGreat) {
                check.illegalArgument("prime " + prime + ", lift(0, " + more + ")", () -> x.lift(0, more));
            }
            check.due("no number was given", () -> x.poly(), 1 + 2 * count);
        }
    }

    /** (x + 1)^2 (x + 2) modulo 5. */
    private static ResidueRows twice() {
        ResidueRows x = new ResidueRows(5);
        Check.make(x, 2, 0, 4, 1);
        x.factor(0, 0);
        check.due("x + 1 divides twice", () -> x.multiplicity(0), 2);
        check.due("x + 2 divides once", () -> x.multiplicity(1), 1);
        return x;
    }

    private static void multiplicityAboveOne() {
        ResidueRows x = twice();
        check.due("power 1", () -> x.lift(0, 1), -1);
        check.due("power 2", () -> x.lift(0, 2), -1);
        check.due("the greatest power", () -> x.lift(0, 13), -1);
        check.due("no number was given", () -> x.poly(), 3);
        check.due("the other one is lifted", () -> x.lift(1, 2), 4);
        // x^3 + 4 x^2 + 2 is (x + 12) (x^2 + 17 x + 21) modulo 25.
        check.row("x + 2 lifted", x, 4, 12, 1);
        ResidueRows two = new ResidueRows(2);
        Check.make(two, 0, 1);
        two.set(0, 31, 1);
        int count = two.factor(0, 0);
        int[] times = {1, 2, 2, 2, 2, 2};
        check.due("x (x^30 + 1) modulo 2, that is x (x^15 + 1)^2", () -> count, 6);
        for (int k = 0; k < count; k++) {
            int which = k;
            check.due("multiplicity(" + k + ")", () -> two.multiplicity(which), times[k]);
            check.due("lift(" + k + ", 2)", () -> two.lift(which, 2), k == 0 ? 7 : -1);
        }
    }

    private static void multiplicityAboveOneAndThrown() {
        ResidueRows x = twice();
        check.illegalArgument("multiplicity 2, power 0", () -> x.lift(0, 0));
        check.illegalArgument("multiplicity 2, power 14", () -> x.lift(0, 14));
        Check.leave(x, 1);
        check.due("multiplicity 2, one number left", () -> x.lift(0, 2), -1);
        check.due("the last number", () -> x.lift(1, 2), 95);
        check.illegalState("multiplicity 2, no number left", () -> x.lift(0, 2));
        check.illegalState("multiplicity 1, no number left", () -> x.lift(1, 2));
        check.illegalState("multiplicity 2, no number left, power 0", () -> x.lift(0, 0));
        check.illegalState("multiplicity 2, no number left, power 14", () -> x.lift(0, 14));
        check.outOfBounds("no such factor, no number left", () -> x.lift(2, 2));
        check.outOfBounds("no such factor, no number left, power 0", () -> x.lift(2, 0));
    }

    private static void noSuchFactor() {
        ResidueRows x = new ResidueRows(5);
        check.outOfBounds("nothing was factored", () -> x.lift(0, 1));
        Check.make(x, 2, 0, 4, 1);
        check.outOfBounds("nothing was factored", () -> x.lift(0, 1));
        x.factor(0, 0);
        int[] wrongs = {-1, 2, 3, 31, 32, Integer.MIN_VALUE, Integer.MAX_VALUE};
        for (int k : wrongs) {
            check.outOfBounds("lift(" + k + ", 1)", () -> x.lift(k, 1));
            check.outOfBounds("lift(" + k + ", 0)", () -> x.lift(k, 0));
            check.outOfBounds("lift(" + k + ", 14)", () -> x.lift(k, 14));
        }
        check.due("no number was given", () -> x.poly(), 3);
    }
}
