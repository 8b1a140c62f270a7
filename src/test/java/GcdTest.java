/** Promise 6: gcd. */
final class GcdTest {
    public static void main(String[] args) {
        Check check = new Check();
        ordinary(check);
        large(check);
        wrong(check);
        check.end();
    }

    private static void ordinary(Check check) {
        ResidueRows x = new ResidueRows(7);
        Check.make(x, 2, 3);
        Check.make(x, 1, 0, 1);
        Check.make(x, 5, 5, 1);
        x.times(0, 1);
        x.times(0, 2);
        check.due("gcd(3, 4)", () -> x.gcd(3, 4), 5);
        check.row("the common factor, monic", x, 5, 3, 1);
        check.due("gcd(4, 3)", () -> x.gcd(4, 3), 6);
        check.row("the same", x, 6, 3, 1);
        check.due("gcd(1, 2)", () -> x.gcd(1, 2), 7);
        check.row("nothing in common", x, 7, 1);
        check.due("gcd(0, 50)", () -> x.gcd(0, 50), 8);
        check.row("with 0: itself, monic", x, 8, 3, 1);
        check.due("gcd(50, 0)", () -> x.gcd(50, 0), 9);
        check.row("with 0: itself, monic", x, 9, 3, 1);
        check.due("gcd(50, 51)", () -> x.gcd(50, 51), 10);
        check.row("0 and 0", x, 10);
        check.due("gcd(3, 3)", () -> x.gcd(3, 3), 11);
        check.row("with itself", x, 11, 3, 1, 3, 1);
        x.set(60, 0, 3);
        check.due("gcd(60, 3)", () -> x.gcd(60, 3), 12);
        check.row("with a constant", x, 12, 1);
        check.due("gcd(60, 50)", () -> x.gcd(60, 50), 13);
        check.row("of a constant and 0", x, 13, 1);
        check.row("the operands stay", x, 0, 2, 3);
    }

    private static void large(Check check) {
        int prime = 2147483629;
        java.util.Random random = new java.util.Random(6);
        for (int run = 0; run < 40; run++) {
            ResidueRows x = new ResidueRows(prime);
            for (int p = 0; p < 3; p++) {
                x.poly();
                for (int k = 0; k <= random.nextInt(17); k++) {
                    x.set(p, k, random.nextInt());
                }
            }
            int a = x.times(0, 2);
            int b = x.times(1, 2);
            check.row("gcd", x, x.gcd(a, b), Naive.gcd(Naive.row(x, a), Naive.row(x, b), prime));
        }
    }

    private static void wrong(Check check) {
        ResidueRows x = new ResidueRows(5);
        int[] wrongs = {-1, 96, Integer.MIN_VALUE, Integer.MAX_VALUE};
        for (int p : wrongs) {
            check.outOfBounds("gcd(" + p + ", 0)", () -> x.gcd(p, 0));
            check.outOfBounds("gcd(0, " + p + ")", () -> x.gcd(0, p));
        }
        check.due("no number was given", () -> x.poly(), 0);
        Check.leave(x, 0);
        check.illegalState("no number is left", () -> x.gcd(0, 0));
        check.outOfBounds("no number is left, and no such polynomial", () -> x.gcd(0, 96));
    }
}
