import java.util.Arrays;

/** Promises 7, 8 and 9: factor, factorOf and multiplicity. */
final class FactorTest {
    public static void main(String[] args) {
        Check check = new Check();
        ordinary(check);
        seeds(check);
        powersOfThePrime(check);
        edges(check);
        numbers(check);
        allMonicOfDegreeFive(check);
        check.end();
    }

    private static void multiplicities(Check check, ResidueRows x, int... want) {
        for (int k = 0; k < want.length; k++) {
            int which = k;
            check.due("multiplicity(" + k + ")", () -> x.multiplicity(which), want[k]);
        }
        check.outOfBounds("multiplicity behind the last", () -> x.multiplicity(want.length));
        check.outOfBounds("factorOf behind the last", () -> x.factorOf(want.length));
    }

    /** 3 x^2 (x + 2) (x^2 + 1)^3 (x^2 + x + 3) modulo 7. */
    private static void ordinary(Check check) {
        ResidueRows x = new ResidueRows(7);
        Check.make(x, 0, 0, 6, 3);
        Check.make(x, 1, 0, 1);
        Check.make(x, 3, 1, 1);
        int all = x.times(x.times(0, 2), x.times(x.times(1, 1), 1));
        check.due("factor", () -> x.factor(all, 12345), 4);
        for (int k = 0; k < 4; k++) {
            int which = k;
            check.due("factorOf(" + k + ")", () -> x.factorOf(which), all + 1 + k);
        }
        multiplicities(check, x, 2, 1, 3, 1);
        check.row("factor 0", x, all + 1, 0, 1);
        check.row("factor 1", x, all + 2, 2, 1);
        check.row("factor 2", x, all + 3, 1, 0, 1);
        check.row("factor 3", x, all + 4, 3, 1, 1);
        check.due("the next number", () -> x.poly(), all + 5);
        x.set(all + 1, 0, 5);
        check.due("the number stays though its polynomial changed", () -> x.factorOf(0), all + 1);
        check.due("and so does the multiplicity", () -> x.multiplicity(0), 2);
        check.due("factor of a polynomial 0", () -> x.factor(90, 1), -1);
        check.due("what was factored stays", () -> x.factorOf(3), all + 4);
        check.due("no number was given", () -> x.poly(), all + 6);
        check.outOfBounds("factorOf(-1)", () -> x.factorOf(-1));
        check.outOfBounds("multiplicity(MIN)", () -> x.multiplicity(Integer.MIN_VALUE));
        check.outOfBounds("factorOf(MAX)", () -> x.factorOf(Integer.MAX_VALUE));
    }

    private static void seeds(Check check) {
        long[] seeds = {0, 1, -1, 77, Long.MIN_VALUE, Long.MAX_VALUE};
        String first = null;
        for (long seed : seeds) {
            ResidueRows x = new ResidueRows(101);
            Check.make(x, 5, 4, 3, 2, 1, 17, 23, 51, 4, 4, 4, 4, 4, 4, 99);
            int count = x.factor(0, seed);
            StringBuilder answers = new StringBuilder().append(count);
            for (int k = 0; k < count; k++) {
                answers.append(Arrays.toString(Naive.row(x, x.factorOf(k)))).append(x.multiplicity(k));
            }
            first = first == null ? answers.toString() : first;
            check.same("the seed changes nothing", answers.toString(), first);
        }
    }

    private static void powersOfThePrime(Check check) {
        ResidueRows two = new ResidueRows(2);
        two.poly();
        two.set(0, 31, 1);
        check.due("x^31", () -> two.factor(0, 0), 1);
        multiplicities(check, two, 31);
        Check.fill(two, 2, 1);
        two.set(2, 16, 1);
        check.due("x^16 + 1 modulo 2", () -> two.factor(2, 0), 1);
        multiplicities(check, two, 16);
        check.row("x + 1", two, two.factorOf(0), 1, 1);
        ResidueRows three = new ResidueRows(3);
        three.poly();
        Check.fill(three, 0, 1);
        three.set(0, 18, 1);
        three.set(0, 9, 2);
        // x^18 + 2 x^9 + 1 = (x^2 + 2 x + 1)^9 = (x + 1)^18
        check.due("(x + 1)^18 modulo 3", () -> three.factor(0, 0), 1);
        multiplicities(check, three, 18);
        Check.fill(three, 40, 1, 0, 0, 0, 0, 0, 1, 0, 0, 0, 0, 0, 1);
        // (x^4 + x^2 + 1)^3 = ((x - 1)^2 (x + 1)^2)^3
        check.due("x^12 + x^6 + 1 modulo 3", () -> three.factor(40, 0), 2);
        multiplicities(check, three, 6, 6);
        check.row("x + 1", three, three.factorOf(0), 1, 1);
        check.row("x + 2", three, three.factorOf(1), 2, 1);
    }

    private static void edges(Check check) {
        ResidueRows x = new ResidueRows(31);
        x.poly();
        x.set(0, 31, 5);
        x.set(0, 1, -5);
        // 5 (x^31 - x): every residue is a root
        check.due("all linear", () -> x.factor(0, 0), 31);
        for (int k = 0; k < 31; k++) {
            int which = k;
            check.due("factor " + k, () -> x.at(x.factorOf(which), 0), k);
        }
        x.set(0, 31, 0);
        x.set(0, 1, 0);
        x.set(0, 0, 9);
        check.due("a constant has no factors", () -> x.factor(0, 0), 0);
        check.outOfBounds("factorOf(0)", () -> x.factorOf(0));
        check.due("the next number", () -> x.poly(), 32);
        int[] wrongs = {-1, 96, Integer.MIN_VALUE, Integer.MAX_VALUE};
        for (int p : wrongs) {
            check.outOfBounds("factor(" + p + ", 0)", () -> x.factor(p, 0));
        }
        // The polynomial may be overwritten by its own factors.
        ResidueRows own = new ResidueRows(5);
        Check.fill(own, 0, 0, 3, 2);
        check.due("factor(0, 0)", () -> own.factor(0, 0), 2);
        check.row("factor 0", own, 0, 0, 1);
        check.row("factor 1", own, 1, 4, 1);
    }

    private static void numbers(Check check) {
        ResidueRows x = new ResidueRows(5);
        Check.make(x, 1, 2, 1);
        Check.make(x, 3);
        Check.leave(x, 2);
        check.due("two numbers are left for degree 2", () -> x.factor(0, 0), 1);
        check.due("its number", () -> x.factorOf(0), 94);
        check.illegalState("one is left for degree 2", () -> x.factor(0, 0));
        check.due("what was factored stays", () -> x.multiplicity(0), 2);
        check.due("the last number", () -> x.poly(), 95);
        check.illegalState("none is left", () -> x.factor(0, 0));
        check.illegalState("none is left for degree 1", () -> x.factor(94, 0));
        check.outOfBounds("none is left, and no such polynomial", () -> x.factor(96, 0));
        check.due("a polynomial 0 needs none", () -> x.factor(50, 0), -1);
        check.due("what was factored stays", () -> x.factorOf(0), 94);
        check.due("a constant needs none", () -> x.factor(1, 0), 0);
        check.outOfBounds("nothing is left of what was factored", () -> x.factorOf(0));
    }

    private static void allMonicOfDegreeFive(Check check) {
        for (int n = 0; n < 243; n++) {
            ResidueRows x = new ResidueRows(3);
            Check.make(x, n % 3, n / 3 % 3, n / 9 % 3, n / 27 % 3, n / 81 % 3, 1);
            Model model = new Model(3);
            model.rows[0] = Arrays.copyOf(Naive.row(x, 0), 32);
            model.next = 1;
            check.due("factor", () -> x.factor(0, 0), model.factor(0));
            for (int k = 0; k < model.factors.size(); k++) {
                int which = k;
                check.row("factor of " + n, x, k + 1, model.factors.get(k));
                check.due("multiplicity", () -> x.multiplicity(which), model.exponents.get(k));
            }
        }
    }
}
