/** Promise 12: inverse. */
final class InverseTest {
    private static final int[] PRIMES = {2, 3, 5, 7, 97, 65537, 1000003, 2147483629, Integer.MAX_VALUE};

    private static final Check check = new Check();

    public static void main(String[] args) {
        check.says("What times v is 1 modulo the prime.");
        ordinary();
        belowZero();
        leastAndGreatest();
        many();
        check.says("ArithmeticException: v is 0 modulo the prime.");
        multiplesOfThePrime();
        check.end();
    }

    private static void ordinary() {
        ResidueRows x = new ResidueRows(7);
        int[] want = {1, 4, 5, 2, 3, 6};
        for (int v = 1; v < 7; v++) {
            int value = v;
            check.due("inverse(" + v + ")", () -> x.inverse(value), want[v - 1]);
            check.due("inverse(" + (v + 7) + ")", () -> x.inverse(value + 7), want[v - 1]);
        }
        check.due("the only one modulo 2", () -> new ResidueRows(2).inverse(1), 1);
    }

    private static void belowZero() {
        ResidueRows x = new ResidueRows(7);
        check.due("inverse(-1)", () -> x.inverse(-1), 6);
        check.due("inverse(-3)", () -> x.inverse(-3), 2);
        check.due("inverse(-6)", () -> x.inverse(-6), 1);
        check.due("inverse(-8)", () -> x.inverse(-8), 6);
        check.due("inverse(-1) modulo 2", () -> new ResidueRows(2).inverse(-1), 1);
        check.due("inverse(-1) modulo the greatest prime", () -> new ResidueRows(Integer.MAX_VALUE).inverse(-1),
                Integer.MAX_VALUE - 1);
    }

    private static void inverse(ResidueRows x, int prime, int v) {
        if (Math.floorMod(v, prime) == 0) {
            check.arithmetic("inverse(" + v + ") modulo " + prime, () -> x.inverse(v));
        } else {
            check.due("inverse(" + v + ") modulo " + prime, () -> x.inverse(v), Naive.invert(v, prime));
        }
    }

    private static void leastAndGreatest() {
        for (int prime : PRIMES) {
            ResidueRows x = new ResidueRows(prime);
            int[] edges = {1, -1, 2, -2, prime - 1, prime + 1, 1 - prime, Integer.MAX_VALUE, Integer.MAX_VALUE - 1,
                Integer.MIN_VALUE, Integer.MIN_VALUE + 1};
            for (int v : edges) {
                inverse(x, prime, v);
            }
        }
        // 2^31 is 1 modulo 2^31 - 1 and 2 modulo 7.
        check.due("inverse(MIN)", () -> new ResidueRows(Integer.MAX_VALUE).inverse(Integer.MIN_VALUE),
                Integer.MAX_VALUE - 1);
        check.due("inverse(MIN) modulo 7", () -> new ResidueRows(7).inverse(Integer.MIN_VALUE), 3);
        check.due("inverse(MAX) modulo 7", () -> new ResidueRows(7).inverse(Integer.MAX_VALUE), 1);
    }

    private static void many() {
        java.util.Random random = new java.util.Random(12);
        for (int prime : PRIMES) {
            ResidueRows x = new ResidueRows(prime);
            for (int i = 0; i < 200; i++) {
                inverse(x, prime, random.nextInt());
                inverse(x, prime, random.nextInt(200) - 100);
            }
        }
    }

    private static void multiplesOfThePrime() {
        for (int prime : PRIMES) {
            ResidueRows x = new ResidueRows(prime);
            check.arithmetic("inverse(0) modulo " + prime, () -> x.inverse(0));
            check.arithmetic("the prime " + prime, () -> x.inverse(prime));
            check.arithmetic("less than 0: the prime " + prime, () -> x.inverse(-prime));
            int most = Integer.MAX_VALUE / prime * prime;
            check.arithmetic("the greatest multiple of " + prime, () -> x.inverse(most));
            check.arithmetic("the least multiple of " + prime, () -> x.inverse(-most));
        }
        check.arithmetic("inverse(MIN) modulo 2", () -> new ResidueRows(2).inverse(Integer.MIN_VALUE));
        check.arithmetic("inverse(MAX) modulo itself", () -> new ResidueRows(Integer.MAX_VALUE).inverse(Integer.MAX_VALUE));
    }
}
