/** Promise 5: over. */
final class OverTest {
    public static void main(String[] args) {
        Check check = new Check();
        ordinary(check);
        large(check);
        wrong(check);
        check.end();
    }

    private static void ordinary(Check check) {
        ResidueRows x = new ResidueRows(7);
        Check.make(x, 5, 0, 2, 5);
        Check.make(x, 3, 2);
        check.due("over(0, 1, 0)", () -> x.over(0, 1, 0), 2);
        check.row("quotient", x, 2, 5, 6, 6);
        check.due("over(0, 1, 1)", () -> x.over(0, 1, 1), 3);
        check.row("rest", x, 3, 4);
        check.due("lower through higher", () -> x.over(1, 0, 0), 4);
        check.row("quotient 0", x, 4);
        check.due("lower through higher", () -> x.over(1, 0, 1), 5);
        check.row("the rest is all", x, 5, 3, 2);
        check.due("through a constant", () -> x.over(0, 3, 0), 6);
        check.row("quotient", x, 6, 3, 0, 4, 3);
        check.due("through a constant", () -> x.over(0, 3, 1), 7);
        check.row("rest 0", x, 7);
        check.due("0 through something", () -> x.over(50, 0, 0), 8);
        check.row("0", x, 8);
        x.set(9, 0, 6);
        check.due("over(0, 9, 0) overwrites its operand", () -> x.over(0, 9, 0), 9);
        check.row("quotient", x, 9, 2, 0, 5, 2);
        check.row("the operands stay", x, 0, 5, 0, 2, 5);
        check.row("the operands stay", x, 1, 3, 2);
    }

    private static void large(Check check) {
        int prime = Integer.MAX_VALUE;
        java.util.Random random = new java.util.Random(5);
        for (int run = 0; run < 40; run++) {
            ResidueRows x = new ResidueRows(prime);
            x.poly();
            x.poly();
            for (int k = 0; k < 32; k++) {
                x.set(0, k, random.nextInt());
            }
            for (int k = 0; k <= random.nextInt(32); k++) {
                x.set(1, k, random.nextInt());
            }
            long[][] due = Naive.divide(Naive.row(x, 0), Naive.row(x, 1), prime);
            check.row("quotient", x, x.over(0, 1, 0), due[0]);
            check.row("rest", x, x.over(0, 1, 1), due[1]);
        }
    }

    private static void wrong(Check check) {
        ResidueRows x = new ResidueRows(5);
        Check.make(x, 1, 1);
        int[] wrongs = {-1, 96, Integer.MIN_VALUE, Integer.MAX_VALUE};
        for (int p : wrongs) {
            check.outOfBounds("over(" + p + ", 0, 0)", () -> x.over(p, 0, 0));
            check.outOfBounds("over(0, " + p + ", 1)", () -> x.over(0, p, 1));
            check.outOfBounds("over(0, " + p + ", 2)", () -> x.over(0, p, 2));
        }
        int[] whats = {-1, 2, Integer.MIN_VALUE, Integer.MAX_VALUE};
        for (int what : whats) {
            check.illegalArgument("over(0, 0, " + what + ")", () -> x.over(0, 0, what));
            check.illegalArgument("through 0 too", () -> x.over(0, 7, what));
        }
        check.arithmetic("over(0, 7, 0)", () -> x.over(0, 7, 0));
        check.arithmetic("over(7, 7, 1)", () -> x.over(7, 7, 1));
        check.due("no number was given", () -> x.poly(), 1);
        Check.leave(x, 0);
        check.illegalState("no number is left", () -> x.over(0, 0, 0));
        check.illegalState("no number is left, and another what", () -> x.over(0, 0, 2));
        check.illegalState("no number is left, and through 0", () -> x.over(0, 7, 0));
        check.outOfBounds("no number is left, and no such polynomial", () -> x.over(0, -1, 2));
    }
}
