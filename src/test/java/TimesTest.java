/** Promise 4: times. */
final class TimesTest {
    public static void main(String[] args) {
        Check check = new Check();
        ordinary(check);
        edges(check);
        wrong(check);
        check.end();
    }

    private static void ordinary(Check check) {
        ResidueRows x = new ResidueRows(7);
        Check.make(x, 1, 2, 3);
        Check.make(x, 4, 5);
        check.due("times(0, 1)", () -> x.times(0, 1), 2);
        check.row("product", x, 2, 4, 6, 1, 1);
        check.row("the operands stay", x, 0, 1, 2, 3);
        check.due("times(0, 0)", () -> x.times(0, 0), 3);
        check.row("square", x, 3, 1, 4, 3, 5, 2);
        check.due("times(5, 0)", () -> x.times(5, 0), 4);
        check.row("0 times something", x, 4);
    }

    private static void edges(Check check) {
        ResidueRows x = new ResidueRows(Integer.MAX_VALUE);
        x.poly();
        for (int k = 0; k < 16; k++) {
            x.set(0, k, -1);
        }
        check.due("degrees 15 and 15", () -> x.times(0, 0), 1);
        check.due("at 15", () -> x.at(1, 15), 16);
        check.due("at 30", () -> x.at(1, 30), 1);
        int sixteen = x.poly();
        x.set(sixteen, 16, Integer.MAX_VALUE - 1);
        check.due("degrees 15 and 16", () -> x.times(0, sixteen), 3);
        check.due("at 31", () -> x.at(3, 31), 1);
        check.illegalArgument("degrees 16 and 16", () -> x.times(sixteen, sixteen));
        check.illegalArgument("degrees 31 and 15", () -> x.times(3, 0));
        check.due("degrees 31 and -1", () -> x.times(3, 50), 4);
        // The number given next may be an operand: its row is read before it is overwritten.
        Check.fill(x, 5, 1, 1);
        check.due("times(5, 5)", () -> x.times(5, 5), 5);
        check.row("square of what 5 was", x, 5, 1, 2, 1);
    }

    private static void wrong(Check check) {
        ResidueRows x = new ResidueRows(5);
        x.set(0, 31, 1);
        int[] wrongs = {-1, 96, Integer.MIN_VALUE, Integer.MAX_VALUE};
        for (int p : wrongs) {
            check.outOfBounds("times(" + p + ", 0)", () -> x.times(p, 0));
            check.outOfBounds("times(0, " + p + ")", () -> x.times(0, p));
        }
        check.due("no number was given", () -> x.poly(), 0);
        x.set(0, 31, 1);
        check.illegalArgument("degree 62", () -> x.times(0, 0));
        Check.leave(x, 0);
        x.set(95, 0, 3);
        check.illegalState("no number is left", () -> x.times(1, 1));
        check.illegalState("no number is left, and degree 62", () -> x.times(0, 0));
        check.outOfBounds("no number is left, and no such polynomial", () -> x.times(0, 96));
        check.due("nothing changed", () -> x.at(95, 0), 3);
    }
}
