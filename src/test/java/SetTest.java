/** Promises 3 and 10: set and at. */
final class SetTest {
    private static final Check check = new Check();

    public static void main(String[] args) {
        check.says("Coefficient k of polynomial p becomes v modulo the prime");
        ordinary();
        belowZeroAndAboveThePrime();
        leastAndGreatest();
        check.says("whether it is another one than at() told ahead of the call.");
        sameAgain();
        check.says("A coefficient.");
        everyCoefficient();
        check.says("ArrayIndexOutOfBoundsException: no such polynomial, coefficient, or factor");
        wrong();
        check.says("(of what was lifted all coefficients become theirs modulo the prime first, and stay so)");
        liftedToWhatAtTold();
        liftedToWhatItIsModuloThePrime();
        liftedAtAnotherCoefficient();
        liftedStaysReduced();
        liftedRefused();
        check.end();
    }

    private static void ordinary() {
        ResidueRows x = new ResidueRows(7);
        check.due("set(3, 4, 9)", () -> x.set(3, 4, 9), true);
        check.due("at(3, 4)", () -> x.at(3, 4), 2);
        check.due("set(3, 4, 1)", () -> x.set(3, 4, 1), true);
        check.row("only one coefficient changes", x, 3, 0, 0, 0, 0, 1);
        check.row("nor another polynomial", x, 2);
        check.row("nor another polynomial", x, 4);
    }

    private static void becomes(ResidueRows x, int v, int want) {
        x.set(5, 6, v);
        check.due("set(5, 6, " + v + "), then at(5, 6)", () -> x.at(5, 6), want);
    }

    private static void belowZeroAndAboveThePrime() {
        ResidueRows x = new ResidueRows(7);
        int[] values = {-1, -6, -7, -8, -700, 0, 6, 7, 8, 13, 14, 700};
        int[] want = {6, 1, 0, 6, 0, 0, 6, 0, 1, 6, 0, 0};
        for (int i = 0; i < values.length; i++) {
            becomes(x, values[i], want[i]);
        }
        ResidueRows two = new ResidueRows(2);
        becomes(two, -1, 1);
        becomes(two, -2, 0);
        becomes(two, 3, 1);
        becomes(two, 2, 0);
        ResidueRows big = new ResidueRows(2147483629);
        becomes(big, -1, 2147483628);
        becomes(big, 2147483628, 2147483628);
        becomes(big, 2147483629, 0);
        becomes(big, 2147483630, 1);
        becomes(big, -2147483629, 0);
        becomes(big, -2147483630, 2147483628);
    }

    private static void leastAndGreatest() {
        // 2^31 is 2 modulo 7 and 2 modulo 3, 0 modulo 2, 19 modulo 2147483629 and 1 modulo 2^31 - 1.
        int[] primes = {2, 3, 7, 2147483629, Integer.MAX_VALUE};
        int[] least = {0, 1, 5, 2147483610, 2147483646};
        int[] greatest = {1, 1, 1, 18, 0};
        for (int i = 0; i < primes.length; i++) {
            ResidueRows x = new ResidueRows(primes[i]);
            becomes(x, Integer.MIN_VALUE, least[i]);
            becomes(x, Integer.MAX_VALUE, greatest[i]);
        }
    }

    private static void sameAgain() {
        ResidueRows x = new ResidueRows(7);
        check.due("0 to 0", () -> x.set(3, 4, 0), false);
        check.due("0 to 7", () -> x.set(3, 4, 7), false);
        check.due("0 to 2", () -> x.set(3, 4, 2), true);
        check.due("2 to 2", () -> x.set(3, 4, 2), false);
        check.due("2 to 9", () -> x.set(3, 4, 9), false);
        check.due("2 to -5", () -> x.set(3, 4, -5), false);
        check.due("2 to -6", () -> x.set(3, 4, -6), true);
        check.due("1 to MAX", () -> x.set(3, 4, Integer.MAX_VALUE), false);
        check.due("1 to MIN", () -> x.set(3, 4, Integer.MIN_VALUE), true);
        check.due("5 to 5", () -> x.set(3, 4, 5), false);
        check.due("5 to 0", () -> x.set(3, 4, 0), true);
        ResidueRows big = new ResidueRows(Integer.MAX_VALUE);
        check.due("0 to -1", () -> big.set(0, 0, -1), true);
        check.due("the prime less 1 to MIN", () -> big.set(0, 0, Integer.MIN_VALUE), false);
        check.due("the prime less 1 to MAX", () -> big.set(0, 0, Integer.MAX_VALUE), true);
        check.due("0 to -MAX", () -> big.set(0, 0, -Integer.MAX_VALUE), false);
    }

    private static void everyCoefficient() {
        ResidueRows x = new ResidueRows(101);
        long[] row = new long[32];
        for (int k = 0; k < 32; k++) {
            row[k] = 100 - k;
        }
        Check.fill(x, 0, row);
        Check.fill(x, 95, row);
        check.row("all of 0", x, 0, row);
        check.row("all of 95", x, 95, row);
        check.row("none of 1", x, 1);
        check.row("none of 94", x, 94);
    }

    private static void wrong() {
        ResidueRows x = new ResidueRows(7);
        int[] wrongPolynomials = {-1, 96, Integer.MIN_VALUE, Integer.MAX_VALUE};
        int[] wrongCoefficients = {-1, 32, Integer.MIN_VALUE, Integer.MAX_VALUE};
        for (int p : wrongPolynomials) {
            check.outOfBounds("set(" + p + ", 0, 1)", () -> x.set(p, 0, 1));
            check.outOfBounds("at(" + p + ", 0)", () -> x.at(p, 0));
        }
        for (int k : wrongCoefficients) {
            check.outOfBounds("set(0, " + k + ", 1)", () -> x.set(0, k, 1));
            check.outOfBounds("at(0, " + k + ")", () -> x.at(0, k));
        }
        check.row("nothing changed", x, 0);
    }

    /** (x + 3) (x + 4) is x^2 + 5 modulo 7; modulo 49 that is (x + 17) (x + 32). */
    private static ResidueRows lifted() {
        ResidueRows x = new ResidueRows(7);
        Check.make(x, 5, 0, 1);
        x.factor(0, 0);
        check.row("lifted", x, x.lift(0, 2), 17, 1);
        check.row("lifted", x, x.lift(1, 2), 32, 1);
        return x;
    }

    private static void liftedToWhatAtTold() {
        ResidueRows x = lifted();
        check.due("set(3, 0, 17): 3 is another one than 17", () -> x.set(3, 0, 17), true);
        check.row("all become residues", x, 3, 3, 1);
        check.due("set(3, 0, 17) again: 3 is what at() told", () -> x.set(3, 0, 17), false);
        check.row("the other one stays as it was lifted", x, 4, 32, 1);
    }

    private static void liftedToWhatItIsModuloThePrime() {
        ResidueRows x = lifted();
        check.due("set(4, 0, 4): 4 is another one than 32", () -> x.set(4, 0, 4), true);
        check.row("all become residues", x, 4, 4, 1);
        check.due("set(4, 0, 4) again", () -> x.set(4, 0, 4), false);
    }

    private static void liftedAtAnotherCoefficient() {
        ResidueRows x = lifted();
        check.due("set(3, 1, 1): below the prime, and the same", () -> x.set(3, 1, 1), false);
        check.row("all become residues all the same", x, 3, 3, 1);
        check.due("set(4, 31, 7): 0 as ahead", () -> x.set(4, 31, 7), false);
        check.row("all become residues all the same", x, 4, 4, 1);
        int third = x.lift(1, 2);
        check.due("set(.., 31, 8)", () -> x.set(third, 31, 8), true);
        check.due("at 31", () -> x.at(third, 31), 1);
        check.due("at 0", () -> x.at(third, 0), 4);
        check.due("at 1", () -> x.at(third, 1), 1);
    }

    /** (x^2 + 1) (x + 4) (x + 5) modulo 7, where x^2 + 1 is lifted to coefficients above 7. */
    private static void liftedStaysReduced() {
        ResidueRows x = new ResidueRows(7);
        Check.make(x, 6, 2, 0, 2, 1);
        x.factor(0, 0);
        int p = x.lift(2, 3);
        check.row("x^2 + 1 lifted to 343", x, p, 183, 133, 1);
        check.due("set another one", () -> x.set(p, 0, 2), true);
        check.row("the middle one is 0 modulo 7", x, p, 2, 0, 1);
        check.due("set back to what was lifted", () -> x.set(p, 0, 183), true);
        check.row("it stays modulo 7", x, p, 1, 0, 1);
    }

    private static void liftedRefused() {
        ResidueRows x = lifted();
        check.outOfBounds("set(3, 32, 0)", () -> x.set(3, 32, 0));
        check.outOfBounds("set(3, -1, 0)", () -> x.set(3, -1, 0));
        check.row("nothing changes then", x, 3, 17, 1);
    }
}
