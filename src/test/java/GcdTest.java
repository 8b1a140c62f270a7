/** Promise 6: gcd. */
final class GcdTest {
    private static final Check check = new Check();

    public static void main(String[] args) {
        check.says("The number of the monic polynomial of the greatest degree that divides both; of 0 and 0 it is 0.");
        ordinary();
        noCommonDivisor();
        withZero();
        withItself();
        withConstant();
        large();
        wrong();
        check.end();
    }

    private static void ordinary() {
        ResidueRows x = new ResidueRows(7);
        Check.make(x, 2, 3);
        Check.make(x, 1, 0, 1);
        Check.make(x, 5, 5, 1);
        x.times(0, 1);
        x.times(0, 2);
        check.due("gcd(3, 4)", () -> x.gcd(3, 4), 5);
        check.row("the common factor, monic", x, 5, 3, 1);
        check.due("gcd(4, 3)", () -> x.gcd(4, 3), 6);
        check.row("the same", x, 6, 3, 1);
        check.row("one divides the other", x, x.gcd(1, 3), 1, 0, 1);
        check.row("the operands stay", x, 3, 2, 3, 2, 3);
        check.row("the operands stay", x, 4, 3, 4, 3, 3);
    }

    private static void noCommonDivisor() {
        ResidueRows x = new ResidueRows(7);
        Check.make(x, 2, 0, 2);
        Check.make(x, 5, 5, 1);
        Check.make(x, 0, 3);
        check.row("nothing in common", x, x.gcd(0, 1), 1);
        check.row("nothing in common", x, x.gcd(1, 0), 1);
        check.row("nothing in common with the letter", x, x.gcd(2, 1), 1);
        ResidueRows two = new ResidueRows(2);
        Check.make(two, 0, 1);
        Check.make(two, 1, 1);
        check.row("x and x + 1 modulo 2", two, two.gcd(0, 1), 1);
    }

    private static void withZero() {
        ResidueRows x = new ResidueRows(7);
        Check.make(x, 2, 3);
        Check.make(x, 5);
        for (int p = 2; p < 7; p++) {
            x.set(p, 31, 1);
        }
        check.row("something and 0: itself, monic", x, x.gcd(0, 50), 3, 1);
        check.row("0 and something: itself, monic", x, x.gcd(50, 0), 3, 1);
        check.row("0 and 0", x, x.gcd(50, 51));
        check.row("a polynomial 0 and itself", x, x.gcd(50, 50));
        check.row("a constant and 0", x, x.gcd(1, 50), 1);
        check.row("0 and a constant", x, x.gcd(50, 1), 1);
    }

    private static void withItself() {
        ResidueRows x = new ResidueRows(7);
        Check.make(x, 2, 3, 2, 3);
        check.row("degree 3", x, x.gcd(0, 0), 3, 1, 3, 1);
        Check.make(x, 6);
        check.row("a constant", x, x.gcd(2, 2), 1);
        int high = Check.make(x, 4);
        x.set(high, 31, 2);
        int monic = x.gcd(high, high);
        check.due("degree 31, at 0", () -> x.at(monic, 0), 2);
        check.due("degree 31, at 31", () -> x.at(monic, 31), 1);
        check.row("itself and its monic one", x, x.gcd(high, monic), Naive.row(x, monic));
    }

    private static void withConstant() {
        ResidueRows x = new ResidueRows(7);
        Check.make(x, 2, 3, 2, 3);
        Check.make(x, 3);
        check.row("a constant and another", x, x.gcd(1, 0), 1);
        check.row("another and a constant", x, x.gcd(0, 1), 1);
    }

    private static void large() {
        int prime = 2147483629;
        java.util.Random random = new java.util.Random(6);
        for (int run = 0; run < 40; run++) {
            ResidueRows x = new ResidueRows(prime);
            for (int p = 0; p < 3; p++) {
                x.poly();
                for (int k = 0; k <= random.nextInt(17); k++) {
                    x.set(p, k, random.nextInt());
                }
            }
            int a = x.times(0, 2);
            int b = x.times(1, 2);
            check.row("gcd", x, x.gcd(a, b), Naive.gcd(Naive.row(x, a), Naive.row(x, b), prime));
        }
    }

    private static void wrong() {
        check.says("ArrayIndexOutOfBoundsException: no such polynomial, coefficient, or factor");
        ResidueRows x = new ResidueRows(5);
        int[] wrongs = {-1, 96, Integer.MIN_VALUE, Integer.MAX_VALUE};
        for (int p : wrongs) {
            check.outOfBounds("gcd(" + p + ", 0)", () -> x.gcd(p, 0));
            check.outOfBounds("gcd(0, " + p + ")", () -> x.gcd(0, p));
        }
        check.due("no number was given", () -> x.poly(), 0);
        Check.leave(x, 0);
        check.says("IllegalStateException: no number is left (95 was given), or as said");
        check.illegalState("no number is left", () -> x.gcd(0, 0));
        check.outOfBounds("no number is left, and no such polynomial", () -> x.gcd(0, 96));
    }
}
