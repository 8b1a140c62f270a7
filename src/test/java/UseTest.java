import java.math.BigInteger;

/** "What it is": every kind of call on one object, up to its 512th call. */
final class UseTest {
    private static final int CALLS = 512;

    private static final Check check = new Check();

    public static void main(String[] args) {
        everyKindOnOneObject();
        check.says("An object is used for at most 512 calls after it has been made; what later calls answer is free.");
        everyKindAsTheLastCall();
        oneKindForAllCalls();
        dearCallsOnly();
        check.end();
    }

    private static void everyKindOnOneObject() {
        check.says("Residues modulo a prime: polynomials with up to 32 coefficients, products, quotients and rests, "
                + "greatest common divisors, factors, roots, inverses, and factors lifted to powers of the prime.");
        ResidueRows x = new ResidueRows(5);
        // 4 x^31 + 1, which is 4 (x^31 - 1), and x - 1
        check.due("poly()", () -> x.poly(), 0);
        check.due("set(0, 31, 4)", () -> x.set(0, 31, 4), true);
        check.due("set(0, 0, 1)", () -> x.set(0, 0, 1), true);
        Check.make(x, -1, 1);
        check.due("a quotient", () -> x.over(0, 1, 0), 2);
        check.due("its coefficient at its degree", () -> x.at(2, 30), 4);
        check.due("its lowest coefficient", () -> x.at(2, 0), 4);
        check.due("a rest", () -> x.over(0, 1, 1), 3);
        check.row("the rest", x, 3);
        check.due("a product", () -> x.times(1, 2), 4);
        check.due("the product's coefficient at its degree", () -> x.at(4, 31), 4);
        check.due("the product's lowest coefficient", () -> x.at(4, 0), 1);
        check.due("a greatest common divisor", () -> x.gcd(4, 1), 5);
        check.row("the greatest common divisor", x, 5, 4, 1);
        // 5^3 is the least power of 5 that is 1 modulo 31: ten factors of degree 3 beside x - 1.
        check.due("factors", () -> x.factor(4, 0), 11);
        check.due("the first one's number", () -> x.factorOf(0), 6);
        check.row("the first one", x, 6, 4, 1);
        check.due("the last one's number", () -> x.factorOf(10), 16);
        check.due("its degree", () -> x.at(16, 3), 1);
        check.due("how often it divides", () -> x.multiplicity(10), 1);
        check.due("a root", () -> x.root(4, 0), 1);
        check.due("no other root", () -> x.root(4, 1), -1);
        check.due("an inverse", () -> x.inverse(3), 2);
        check.due("a factor lifted", () -> x.lift(0, 13), 17);
        check.due("4 x^31 + 1 is 0 at its root modulo 5^13", () -> wholeAt(-x.at(17, 0), 1220703125), 0);
        check.due("it is the factor modulo 5", () -> x.at(17, 0) % 5, 4);
    }

    private static BigInteger wholeAt(int value, int modulus) {
        BigInteger m = BigInteger.valueOf(modulus);
        BigInteger power = BigInteger.valueOf(value).modPow(BigInteger.valueOf(31), m);
        return power.multiply(BigInteger.valueOf(4)).add(BigInteger.ONE).mod(m);
    }

    /** x^2 + 5 is (x + 3) (x + 4) modulo 7, and (x + 17) (x + 32) modulo 49. */
    private static ResidueRows after(int calls) {
        ResidueRows x = new ResidueRows(7);
        x.poly();
        x.set(0, 0, 5);
        x.set(0, 2, 1);
        x.factor(0, 0);
        for (int n = 4; n < calls; n++) {
            readsOnly(x, n);
        }
        return x;
    }

    private static void readsOnly(ResidueRows x, int n) {
        switch (n % 8) {
            case 0 -> check.due("factorOf(1)", () -> x.factorOf(1), 2);
            case 1 -> check.due("multiplicity(1)", () -> x.multiplicity(1), 1);
            case 2 -> check.due("root(0, 0)", () -> x.root(0, 0), 3);
            case 3 -> check.due("root(0, 1)", () -> x.root(0, 1), 4);
            case 4 -> check.due("inverse(3)", () -> x.inverse(3), 5);
            case 5 -> check.due("set(1, 0, 3)", () -> x.set(1, 0, 3), false);
            case 6 -> check.due("at(2, 0)", () -> x.at(2, 0), 4);
            default -> check.outOfBounds("at(96, 0)", () -> x.at(96, 0));
        }
    }

    private static void everyKindAsTheLastCall() {
        last("poly()", x -> x.poly(), 3);
        last("set(0, 0, 6)", x -> x.set(0, 0, 6), true);
        last("times(1, 2)", x -> x.times(1, 2), 3);
        last("over(0, 1, 0)", x -> x.over(0, 1, 0), 3);
        last("over(0, 1, 1)", x -> x.over(0, 1, 1), 3);
        last("gcd(0, 2)", x -> x.gcd(0, 2), 3);
        last("factor(0, 9)", x -> x.factor(0, 9), 2);
        last("factorOf(0)", x -> x.factorOf(0), 1);
        last("multiplicity(0)", x -> x.multiplicity(0), 1);
        last("at(0, 0)", x -> x.at(0, 0), 5);
        last("root(0, 1)", x -> x.root(0, 1), 4);
        last("inverse(-1)", x -> x.inverse(-1), 6);
        last("lift(0, 2)", x -> x.lift(0, 2), 3);
        last("over(0, 95, 0)", x -> x.over(0, 95, 0), "throws.ArithmeticException");
        last("lift(0, 0)", x -> x.lift(0, 0), "throws.IllegalArgumentException");
        last("factorOf(2)", x -> x.factorOf(2), "throws.ArrayIndexOutOfBoundsException");
        lastRow("times(1, 2)", x -> x.times(1, 2), 5);
        lastRow("over(0, 1, 0)", x -> x.over(0, 1, 0), 4);
        lastRow("gcd(0, 2)", x -> x.gcd(0, 2), 4);
        lastRow("lift(0, 2)", x -> x.lift(0, 2), 17);
    }

    private static void last(String name, Twin.On call, Object want) {
        ResidueRows x = after(CALLS - 1);
        check.due(name + " as the 512th call", () -> call.answer(x), want);
    }

    private static void lastRow(String name, Twin.On call, int want) {
        ResidueRows x = after(CALLS - 2);
        int p = (Integer) call.answer(x);
        check.due(name + " as the 511th call, then at()", () -> x.at(p, 0), want);
    }

    /** Makers run out of numbers; the calls behind that are refused, and are answered all the same. */
    private static void oneKindForAllCalls() {
        ResidueRows polys = new ResidueRows(7);
        ResidueRows products = new ResidueRows(7);
        ResidueRows divisors = new ResidueRows(7);
        ResidueRows coefficients = new ResidueRows(7);
        ResidueRows inverses = new ResidueRows(7);
        for (int n = 0; n < CALLS; n++) {
            int call = n;
            Object number = n < 96 ? (Object) n : "throws.IllegalStateException";
            check.due("poly() as call " + n, () -> polys.poly(), number);
            check.due("times(95, 95) as call " + n, () -> products.times(95, 95), number);
            check.due("gcd(0, 95) as call " + n, () -> divisors.gcd(0, 95), number);
            check.due("set(5, 5, " + n + ") as call " + n, () -> coefficients.set(5, 5, call), n != 0);
            check.due("inverse(" + n + ") as call " + n, () -> inverses.inverse(call),
                    n % 7 == 0 ? "throws.ArithmeticException" : (Object) new int[] {0, 1, 4, 5, 2, 3, 6}[n % 7]);
        }
    }

    /** Roots of two polynomials in turn, modulo the greatest prime: nothing of the last call is of use to the next. */
    private static void dearCallsOnly() {
        ResidueRows x = new ResidueRows(Integer.MAX_VALUE);
        x.set(0, 31, 1);
        x.set(0, 0, -1);
        x.set(1, 31, 1);
        x.set(1, 0, 1);
        // The prime less 1 is 2 * 3^2 * 7 * 11 * 31 * 151 * 331: there are 31 roots.
        for (int n = 4; n < CALLS; n += 2) {
            check.due("root(0, 0) as call " + n, () -> x.root(0, 0), 1);
            check.due("root(1, 30) as call " + (n + 1), () -> x.root(1, 30), Integer.MAX_VALUE - 1);
        }
    }
}
