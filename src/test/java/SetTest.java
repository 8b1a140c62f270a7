/** Promises 3 and 10: set and at. */
final class SetTest {
    public static void main(String[] args) {
        Check check = new Check();
        ordinary(check);
        wrong(check);
        ofLifted(check);
        check.end();
    }

    private static void ordinary(Check check) {
        ResidueRows x = new ResidueRows(7);
        check.due("set(3, 4, 9)", () -> x.set(3, 4, 9), true);
        check.due("at(3, 4)", () -> x.at(3, 4), 2);
        check.due("set(3, 4, 2)", () -> x.set(3, 4, 2), false);
        check.due("set(3, 4, -5)", () -> x.set(3, 4, -5), false);
        check.due("set(3, 4, -6)", () -> x.set(3, 4, -6), true);
        check.due("set(3, 0, 7)", () -> x.set(3, 0, 7), false);
        check.due("set(0, 0, MIN)", () -> x.set(0, 0, Integer.MIN_VALUE), true);
        check.due("at(0, 0)", () -> x.at(0, 0), Math.floorMod(Integer.MIN_VALUE, 7));
        check.due("set(95, 31, MAX)", () -> x.set(95, 31, Integer.MAX_VALUE), true);
        check.due("at(95, 31)", () -> x.at(95, 31), Integer.MAX_VALUE % 7);
        check.row("only one coefficient changes", x, 3, 0, 0, 0, 0, 1);
        check.row("nor another polynomial", x, 2);
        ResidueRows big = new ResidueRows(Integer.MAX_VALUE);
        check.due("set(0, 0, -1)", () -> big.set(0, 0, -1), true);
        check.due("at(0, 0)", () -> big.at(0, 0), Integer.MAX_VALUE - 1);
        check.due("set(0, 0, MIN)", () -> big.set(0, 0, Integer.MIN_VALUE), false);
        check.due("set(0, 0, MAX)", () -> big.set(0, 0, Integer.MAX_VALUE), true);
        check.due("at(0, 0)", () -> big.at(0, 0), 0);
    }

    private static void wrong(Check check) {
        ResidueRows x = new ResidueRows(7);
        int[] wrongPolynomials = {-1, 96, Integer.MIN_VALUE, Integer.MAX_VALUE};
        int[] wrongCoefficients = {-1, 32, Integer.MIN_VALUE, Integer.MAX_VALUE};
        for (int p : wrongPolynomials) {
            check.outOfBounds("set(" + p + ", 0, 1)", () -> x.set(p, 0, 1));
            check.outOfBounds("at(" + p + ", 0)", () -> x.at(p, 0));
        }
        for (int k : wrongCoefficients) {
            check.outOfBounds("set(0, " + k + ", 1)", () -> x.set(0, k, 1));
            check.outOfBounds("at(0, " + k + ")", () -> x.at(0, k));
        }
        check.row("nothing changed", x, 0);
    }

    /** x^2 + 5 is (x + 3) (x + 4) modulo 7, and (x + 17) (x + 32) modulo 49. */
    private static void ofLifted(Check check) {
        ResidueRows x = new ResidueRows(7);
        int p = Check.make(x, 5, 0, 1);
        x.factor(p, 0);
        int lifted = x.lift(0, 2);
        check.row("lifted", x, lifted, 17, 1);
        check.due("set to what at() told", () -> x.set(lifted, 0, 17), true);
        check.row("all become residues", x, lifted, 3, 1);
        int second = x.lift(1, 2);
        check.row("lifted", x, second, 32, 1);
        check.due("set another coefficient to what it is", () -> x.set(second, 1, 1), false);
        check.row("all become residues", x, second, 4, 1);
        int third = x.lift(1, 2);
        check.outOfBounds("set(.., 32, 0)", () -> x.set(third, 32, 0));
        check.row("nothing changes then", x, third, 32, 1);
        check.due("set another coefficient", () -> x.set(third, 31, 8), true);
        check.due("at 0", () -> x.at(third, 0), 4);
    }
}
