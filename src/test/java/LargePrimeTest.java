import java.util.Random;

/** Promises 7 to 9 where trying out takes too long: the factors' powers make the polynomial, and none can be split. */
final class LargePrimeTest {
    private static final int[] PRIMES = {2, 3, 5, 7, 13, 31, 37, 257, 65537, 1000003, 2147483629, Integer.MAX_VALUE};

    private static final Check check = new Check();

    public static void main(String[] args) {
        Random random = new Random(7);
        for (int prime : PRIMES) {
            for (int run = 0; run < 60; run++) {
                ResidueRows x = new ResidueRows(prime);
                x.poly();
                Check.fill(x, 0, run % 3 == 0 ? random(random, 1 + random.nextInt(31), prime) : made(random, prime));
                factors(x, prime, random.nextLong());
            }
        }
        check.end();
    }

    private static long[] random(Random random, int degree, int prime) {
        long[] row = new long[degree + 1];
        for (int k = 0; k <= degree; k++) {
            row[k] = random.nextInt(prime);
        }
        row[degree] = 1 + random.nextInt(prime - 1);
        return row;
    }

    /** A product of powers of random polynomials. */
    private static long[] made(Random random, int prime) {
        long[] all = {1 + random.nextInt(prime - 1)};
        for (int tries = 0; tries < 20; tries++) {
            long[] base = random(random, 1 + random.nextInt(6), prime);
            for (int n = random.nextInt(5); n >= 0 && all.length + base.length <= 33; n--) {
                all = Naive.multiply(all, base, prime);
            }
        }
        return all;
    }

    private static void factors(ResidueRows x, int prime, long seed) {
        long[] whole = Naive.row(x, 0);
        int count = x.factor(0, seed);
        if (count > 13) {
            return; // reading them all would take more than the 512 calls of one object
        }
        long[] all = {whole[whole.length - 1]};
        long[] before = {};
        for (int k = 0; k < count; k++) {
            long[] factor = Naive.row(x, x.factorOf(k));
            boolean right = factor[factor.length - 1] == 1 && Naive.isAhead(before, factor)
                    && Naive.isIrreducible(factor, prime);
            check.due("factor " + k + " modulo " + prime, () -> right, true);
            for (int n = x.multiplicity(k); n > 0; n--) {
                all = Naive.multiply(all, factor, prime);
            }
            before = factor;
        }
        check.same("the product", java.util.Arrays.toString(all), java.util.Arrays.toString(whole));
    }
}
