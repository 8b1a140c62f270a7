/** Promise 13: lift. */
final class LiftTest {
    public static void main(String[] args) {
        Check check = new Check();
        ordinary(check);
        keepsWhatWasFactored(check);
        powers(check);
        wrong(check);
        many(check);
        check.end();
    }

    /** x^2 + 5 is (x + 3) (x + 4) modulo 7. */
    private static void ordinary(Check check) {
        ResidueRows x = new ResidueRows(7);
        Check.make(x, 5, 0, 1);
        x.factor(0, 0);
        check.due("lift(0, 3)", () -> x.lift(0, 3), 3);
        check.due("lift(1, 3)", () -> x.lift(1, 3), 4);
        long a = x.at(3, 0);
        long b = x.at(4, 0);
        check.due("sum", () -> (a + b) % 343, 0);
        check.due("product", () -> a * b % 343, 5);
        check.due("factor 0", () -> a % 7, 3);
        check.due("factor 1", () -> b % 7, 4);
        check.due("lift(0, 1)", () -> x.lift(0, 1), 5);
        check.row("the factor itself", x, 5, 3, 1);
        // What was lifted counts modulo the prime.
        check.due("times", () -> x.times(3, 4), 6);
        check.row("product", x, 6, 5, 0, 1);
        check.due("over", () -> x.over(0, 3, 0), 7);
        check.row("quotient", x, 7, 4, 1);
        check.due("gcd", () -> x.gcd(3, 0), 8);
        check.row("gcd", x, 8, 3, 1);
        check.due("root", () -> x.root(3, 0), 4);
        check.due("at", () -> x.at(3, 0), a);
        check.due("factor", () -> x.factor(3, 0), 1);
        check.row("factor", x, 9, 3, 1);
        check.due("lift of what was lifted", () -> x.lift(0, 2), 10);
        check.row("from the residues", x, 10, 3, 1);
    }

    private static void keepsWhatWasFactored(Check check) {
        ResidueRows x = new ResidueRows(5);
        // 2 (x + 1) (x^2 + 2)
        Check.make(x, 4, 4, 2, 2);
        int count = x.factor(0, 0);
        long[] whole = Naive.row(x, 0);
        long[] factor = Naive.row(x, 1);
        check.due("factors", () -> count, 2);
        Check.fill(x, 0, 4, 4, 4, 4, 4);
        Check.fill(x, 1, 3, 2, 1, 4);
        check.due("multiplicity(0)", () -> x.multiplicity(0), 1);
        int lifted = x.lift(0, 4);
        check.due("as it was then",
                () -> Naive.isLifted(Naive.row(x, lifted), factor, whole, 5, 625), true);
        x.factor(90, 0);
        int again = x.lift(0, 4);
        check.row("a polynomial 0 changes nothing", x, again, Naive.row(x, lifted));
    }

    private static void powers(Check check) {
        int[][] greatest = {{2, 30}, {3, 19}, {5, 13}, {7, 11}, {46337, 2}, {46349, 1}, {Integer.MAX_VALUE, 1}};
        for (int[] pair : greatest) {
            ResidueRows x = new ResidueRows(pair[0]);
            Check.make(x, 0, 1, 1);
            x.factor(0, 0);
            check.due("prime " + pair[0] + ", lift(0, " + pair[1] + ")", () -> x.lift(0, pair[1]), 3);
            check.row("x", x, 3, 0, 1);
            check.illegalArgument("prime " + pair[0] + ", one power more", () -> x.lift(0, pair[1] + 1));
            check.illegalArgument("lift(0, MAX)", () -> x.lift(0, Integer.MAX_VALUE));
            check.illegalArgument("lift(0, 0)", () -> x.lift(0, 0));
            check.illegalArgument("lift(0, -1)", () -> x.lift(0, -1));
            check.illegalArgument("lift(0, MIN)", () -> x.lift(0, Integer.MIN_VALUE));
            check.due("no number was given", () -> x.poly(), 4);
        }
    }

    private static void wrong(Check check) {
        ResidueRows x = new ResidueRows(5);
        // (x + 1)^2 (x + 2)
        Check.make(x, 1, 2, 1);
        Check.make(x, 2, 1);
        int all = x.times(0, 1);
        check.outOfBounds("nothing was factored", () -> x.lift(0, 1));
        x.factor(all, 0);
        check.due("multiplicity 2", () -> x.lift(0, 2), -1);
        check.due("multiplicity 2, power 1", () -> x.lift(0, 1), -1);
        check.illegalArgument("multiplicity 2, power 0", () -> x.lift(0, 0));
        check.outOfBounds("lift(2, 1)", () -> x.lift(2, 1));
        check.outOfBounds("lift(-1, 0)", () -> x.lift(-1, 0));
        check.outOfBounds("lift(MAX, 99)", () -> x.lift(Integer.MAX_VALUE, 99));
        check.due("no number was given", () -> x.poly(), all + 3);
        Check.leave(x, 0);
        check.illegalState("no number is left", () -> x.lift(1, 2));
        check.illegalState("no number is left, multiplicity 2", () -> x.lift(0, 2));
        check.illegalState("no number is left, power 0", () -> x.lift(0, 0));
        check.outOfBounds("no number is left, no such factor", () -> x.lift(2, 0));
    }

    private static void many(Check check) {
        int[] primes = {2, 3, 5, 7, 31, 101, 1009, 46337, 1000003, Integer.MAX_VALUE};
        java.util.Random random = new java.util.Random(13);
        for (int prime : primes) {
            for (int run = 0; run < 30; run++) {
                ResidueRows x = new ResidueRows(prime);
                x.poly();
                int degree = run < 5 ? 31 : 1 + random.nextInt(31);
                for (int k = 0; k <= degree; k++) {
                    x.set(0, k, random.nextInt());
                }
                liftAll(check, x, prime, random);
            }
        }
    }

    private static void liftAll(Check check, ResidueRows x, int prime, java.util.Random random) {
        long[] whole = Naive.row(x, 0);
        int count = x.factor(0, 0);
        // More than six would take more than the 512 calls of one object.
        for (int k = 0; k < Math.min(count, 6); k++) {
            int which = k;
            int power = 1 + random.nextInt(30);
            long modulus = new Model(prime).modulus(power);
            if (modulus == 0) {
                power = 1 + (prime < 46341 ? 1 : 0);
                modulus = new Model(prime).modulus(power);
            }
            int to = power;
            long q = modulus;
            if (x.multiplicity(k) != 1) {
                check.due("lift", () -> x.lift(which, to), -1);
                continue;
            }
            int lifted = x.lift(k, power);
            check.due("lift(" + k + ", " + power + ") modulo " + prime, () -> Naive.isLifted(
                    Naive.row(x, lifted), Naive.row(x, x.factorOf(which)), whole, prime, q), true);
        }
    }
}
