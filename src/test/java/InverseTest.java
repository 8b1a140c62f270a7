/** Promise 12: inverse. */
final class InverseTest {
    private static void inverse(Check check, ResidueRows x, int prime, int v) {
        if (Math.floorMod(v, prime) == 0) {
            check.arithmetic("inverse(" + v + ") modulo " + prime, () -> x.inverse(v));
        } else {
            check.due("inverse(" + v + ") modulo " + prime, () -> x.inverse(v), Naive.invert(v, prime));
        }
    }

    public static void main(String[] args) {
        Check check = new Check();
        int[] primes = {2, 3, 5, 7, 97, 65537, 1000003, 2147483629, Integer.MAX_VALUE};
        java.util.Random random = new java.util.Random(12);
        for (int prime : primes) {
            ResidueRows x = new ResidueRows(prime);
            int[] edges = {0, 1, -1, 2, -2, prime - 1, prime, -prime, Integer.MAX_VALUE, Integer.MIN_VALUE,
                Integer.MIN_VALUE + 1};
            for (int v : edges) {
                inverse(check, x, prime, v);
            }
            for (int i = 0; i < 200; i++) {
                inverse(check, x, prime, random.nextInt());
                inverse(check, x, prime, random.nextInt(200) - 100);
            }
        }
        check.end();
    }
}
