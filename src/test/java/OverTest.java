/** Promise 5: over. */
final class OverTest {
    private static final Check check = new Check();

    public static void main(String[] args) {
        check.says("The number of a through b (what 0), or of the rest (1): a is b times that, and the rest, whose degree "
                + "is below b's.");
        ordinary();
        lowerThroughHigher();
        sameDegree();
        throughConstant();
        zeroThroughSomething();
        operandIsOverwritten();
        large();
        check.says("IllegalArgumentException: another what.");
        anotherWhat();
        check.says("ArithmeticException: b is 0.");
        throughZero();
        wrong();
        check.end();
    }

    private static void ordinary() {
        ResidueRows x = new ResidueRows(7);
        Check.make(x, 5, 0, 2, 5);
        Check.make(x, 3, 2);
        check.due("over(0, 1, 0)", () -> x.over(0, 1, 0), 2);
        check.row("quotient", x, 2, 5, 6, 6);
        check.due("over(0, 1, 1)", () -> x.over(0, 1, 1), 3);
        check.row("rest", x, 3, 4);
        check.row("the operands stay", x, 0, 5, 0, 2, 5);
        check.row("the operands stay", x, 1, 3, 2);
    }

    private static void lowerThroughHigher() {
        ResidueRows x = new ResidueRows(7);
        Check.make(x, 3, 2, 6);
        Check.make(x, 5, 0, 2, 5);
        Check.make(x, 4);
        check.row("degree 2 through 3: quotient 0", x, x.over(0, 1, 0));
        check.row("degree 2 through 3: the rest is all", x, x.over(0, 1, 1), 3, 2, 6);
        check.row("a constant through degree 3: quotient 0", x, x.over(2, 1, 0));
        check.row("a constant through degree 3: the rest is all", x, x.over(2, 1, 1), 4);
        int high = Check.make(x);
        x.set(high, 31, 2);
        check.row("degree 3 through 31: quotient 0", x, x.over(1, high, 0));
        check.row("degree 3 through 31: the rest is all", x, x.over(1, high, 1), 5, 0, 2, 5);
    }

    private static void sameDegree() {
        ResidueRows x = new ResidueRows(7);
        Check.make(x, 3, 2, 6);
        Check.make(x, 1, 1, 2);
        check.row("quotient", x, x.over(0, 1, 0), 3);
        check.row("rest", x, x.over(0, 1, 1), 0, 6);
        check.row("through itself", x, x.over(0, 0, 0), 1);
        check.row("through itself, the rest", x, x.over(0, 0, 1));
        int high = Check.make(x, 1);
        x.set(high, 31, 3);
        check.row("degree 31 through itself", x, x.over(high, high, 0), 1);
        check.row("degree 31 through itself, the rest", x, x.over(high, high, 1));
    }

    private static void throughConstant() {
        ResidueRows x = new ResidueRows(7);
        Check.make(x, 5, 0, 2, 5);
        Check.make(x, 4);
        Check.make(x, 1);
        check.row("through 4", x, x.over(0, 1, 0), 3, 0, 4, 3);
        check.row("through 4, the rest", x, x.over(0, 1, 1));
        check.row("through 1", x, x.over(0, 2, 0), 5, 0, 2, 5);
        check.row("through 1, the rest", x, x.over(0, 2, 1));
        check.row("1 through 4", x, x.over(2, 1, 0), 2);
        check.row("1 through 4, the rest", x, x.over(2, 1, 1));
        int high = Check.make(x);
        x.set(high, 31, 6);
        int quotient = x.over(high, 1, 0);
        check.due("degree 31 through 4", () -> x.at(quotient, 31), 5);
        check.row("degree 31 through 4, the rest", x, x.over(high, 1, 1));
    }

    private static void zeroThroughSomething() {
        ResidueRows x = new ResidueRows(7);
        Check.make(x, 5, 0, 2, 5);
        Check.make(x, 4);
        for (int p = 2; p < 6; p++) {
            x.set(p, 31, 1);
        }
        check.row("0 through degree 3", x, x.over(50, 0, 0));
        check.row("0 through degree 3, the rest", x, x.over(50, 0, 1));
        check.row("0 through a constant", x, x.over(50, 1, 0));
        check.row("0 through a constant, the rest", x, x.over(50, 1, 1));
    }

    private static void operandIsOverwritten() {
        ResidueRows x = new ResidueRows(7);
        Check.make(x, 5, 0, 2, 5);
        x.set(1, 0, 6);
        check.due("over(0, 1, 0) overwrites its operand", () -> x.over(0, 1, 0), 1);
        check.row("quotient", x, 1, 2, 0, 5, 2);
        Check.fill(x, 2, 1, 1);
        check.due("over(2, 0, 1) overwrites its operand", () -> x.over(2, 0, 1), 2);
        check.row("rest", x, 2, 1, 1);
    }

    private static void large() {
        int prime = Integer.MAX_VALUE;
        java.util.Random random = new java.util.Random(5);
        for (int run = 0; run < 40; run++) {
            ResidueRows x = new ResidueRows(prime);
            x.poly();
            x.poly();
            for (int k = 0; k < 32; k++) {
                x.set(0, k, random.nextInt());
            }
            for (int k = 0; k <= random.nextInt(32); k++) {
                x.set(1, k, random.nextInt());
            }
            long[][] due = Naive.divide(Naive.row(x, 0), Naive.row(x, 1), prime);
            check.row("quotient", x, x.over(0, 1, 0), due[0]);
            check.row("rest", x, x.over(0, 1, 1), due[1]);
        }
    }

    private static void anotherWhat() {
        ResidueRows x = new ResidueRows(5);
        Check.make(x, 1, 1);
        int[] whats = {-1, 2, Integer.MIN_VALUE, Integer.MAX_VALUE};
        for (int what : whats) {
            check.illegalArgument("over(0, 0, " + what + ")", () -> x.over(0, 0, what));
            check.illegalArgument("over(7, 0, " + what + "), a is 0", () -> x.over(7, 0, what));
            check.illegalArgument("over(0, 7, " + what + "), b is 0", () -> x.over(0, 7, what));
        }
        check.due("no number was given", () -> x.poly(), 1);
    }

    private static void throughZero() {
        ResidueRows x = new ResidueRows(5);
        Check.make(x, 1, 1);
        Check.make(x, 3);
        for (int what = 0; what < 2; what++) {
            int which = what;
            check.arithmetic("something through 0, " + what, () -> x.over(0, 7, which));
            check.arithmetic("a constant through 0, " + what, () -> x.over(1, 7, which));
            check.arithmetic("0 through 0, " + what, () -> x.over(7, 7, which));
            check.arithmetic("0 through another 0, " + what, () -> x.over(7, 8, which));
        }
        check.due("no number was given", () -> x.poly(), 2);
    }

    private static void wrong() {
        check.says("ArrayIndexOutOfBoundsException: no such polynomial, coefficient, or factor");
        ResidueRows x = new ResidueRows(5);
        Check.make(x, 1, 1);
        int[] wrongs = {-1, 96, Integer.MIN_VALUE, Integer.MAX_VALUE};
        for (int p : wrongs) {
            check.outOfBounds("over(" + p + ", 0, 0)", () -> x.over(p, 0, 0));
            check.outOfBounds("over(0, " + p + ", 1)", () -> x.over(0, p, 1));
            check.outOfBounds("over(0, " + p + ", 2)", () -> x.over(0, p, 2));
        }
        check.due("no number was given", () -> x.poly(), 1);
        Check.leave(x, 0);
        check.says("IllegalStateException: no number is left (95 was given), or as said");
        check.illegalState("no number is left", () -> x.over(0, 0, 0));
        check.illegalState("no number is left, and another what", () -> x.over(0, 0, 2));
        check.illegalState("no number is left, and through 0", () -> x.over(0, 7, 0));
        check.outOfBounds("no number is left, and no such polynomial", () -> x.over(0, -1, 2));
    }
}
