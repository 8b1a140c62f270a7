/** Promise 4: times. */
final class TimesTest {
    private static final Check check = new Check();

    public static void main(String[] args) {
        check.says("A product's number.");
        ordinary();
        zeroOnEitherSide();
        greatestCoefficients();
        operandIsOverwritten();
        check.says("IllegalArgumentException: its degree would be above 31.");
        degrees();
        wrong();
        check.end();
    }

    private static void ordinary() {
        ResidueRows x = new ResidueRows(7);
        Check.make(x, 1, 2, 3);
        Check.make(x, 4, 5);
        check.due("times(0, 1)", () -> x.times(0, 1), 2);
        check.row("product", x, 2, 4, 6, 1, 1);
        check.row("the operands stay", x, 0, 1, 2, 3);
        check.due("times(0, 0)", () -> x.times(0, 0), 3);
        check.row("square", x, 3, 1, 4, 3, 5, 2);
    }

    private static void zeroOnEitherSide() {
        ResidueRows x = new ResidueRows(7);
        x.poly();
        x.poly();
        for (int k = 0; k < 32; k++) {
            x.set(0, k, 6 - k % 6);
        }
        // The rows that the products get hold something else ahead of the calls.
        for (int p = 2; p < 5; p++) {
            x.set(p, 31, 3);
        }
        check.due("something times 0", () -> x.times(0, 1), 2);
        check.row("0", x, 2);
        check.due("0 times something", () -> x.times(1, 0), 3);
        check.row("0", x, 3);
        check.due("0 times 0", () -> x.times(1, 1), 4);
        check.row("0", x, 4);
        Check.make(x, 1);
        check.due("something of degree 31 times 1", () -> x.times(0, 5), 6);
        check.row("itself", x, 6, Naive.row(x, 0));
    }

    private static void greatestCoefficients() {
        ResidueRows x = new ResidueRows(Integer.MAX_VALUE);
        x.poly();
        for (int k = 0; k < 16; k++) {
            x.set(0, k, -1);
        }
        check.due("degrees 15 and 15", () -> x.times(0, 0), 1);
        for (int k = 0; k < 31; k++) {
            int power = k;
            check.due("at " + k, () -> x.at(1, power), 16 - Math.abs(15 - k));
        }
    }

    private static void operandIsOverwritten() {
        ResidueRows x = new ResidueRows(7);
        // The number given next may be an operand: its row is read before it is overwritten.
        Check.fill(x, 0, 1, 1);
        check.due("times(0, 0)", () -> x.times(0, 0), 0);
        check.row("square of what 0 was", x, 0, 1, 2, 1);
    }

    /** Degrees that make 31 are multiplied, those that make 32 are not. */
    private static void degrees() {
        int[] primes = {2, 7, Integer.MAX_VALUE};
        for (int prime : primes) {
            for (int degree = 0; degree < 32; degree++) {
                ResidueRows x = new ResidueRows(prime);
                x.set(x.poly(), degree, 1);
                x.set(x.poly(), 31 - degree, -1);
                x.poly();
                x.set(2, Math.min(32 - degree, 31), 1);
                String both = "degrees " + degree + " and " + (31 - degree);
                check.due(both, () -> x.times(0, 1), 3);
                check.due(both + ": at 31", () -> x.at(3, 31), prime - 1);
                if (degree > 0) {
                    check.illegalArgument("degrees " + degree + " and " + (32 - degree), () -> x.times(0, 2));
                    check.illegalArgument("degrees " + (32 - degree) + " and " + degree, () -> x.times(2, 0));
                }
                check.due("a refused one gets no number", () -> x.poly(), 4);
            }
        }
        ResidueRows x = new ResidueRows(7);
        x.set(x.poly(), 31, 1);
        check.illegalArgument("degrees 31 and 31", () -> x.times(0, 0));
    }

    private static void wrong() {
        check.says("ArrayIndexOutOfBoundsException: no such polynomial, coefficient, or factor");
        ResidueRows x = new ResidueRows(5);
        x.set(0, 31, 1);
        int[] wrongs = {-1, 96, Integer.MIN_VALUE, Integer.MAX_VALUE};
        for (int p : wrongs) {
            check.outOfBounds("times(" + p + ", 0)", () -> x.times(p, 0));
            check.outOfBounds("times(0, " + p + ")", () -> x.times(0, p));
        }
        check.due("no number was given", () -> x.poly(), 0);
        x.set(0, 31, 1);
        Check.leave(x, 0);
        x.set(95, 0, 3);
        check.says("IllegalStateException: no number is left (95 was given), or as said");
        check.illegalState("no number is left", () -> x.times(1, 1));
        check.illegalState("no number is left, and degree 62", () -> x.times(0, 0));
        check.outOfBounds("no number is left, and no such polynomial", () -> x.times(0, 96));
        check.due("nothing changed", () -> x.at(95, 0), 3);
    }
}
