import java.util.ArrayList;
import java.util.Arrays;
import java.util.List;

/** The document for small primes, by trying everything out; what is lifted is checked by the caller. */
final class Model {
    final int prime;
    final long[][] rows = new long[96][32];
    int next = 0;
    long[] whole = null;
    List<long[]> factors = new ArrayList<>();
    List<Integer> exponents = new ArrayList<>();
    List<Integer> numbers = new ArrayList<>();

    Model(int number) {
        int n = Math.max(number, 2);
        while (!java.math.BigInteger.valueOf(n).isProbablePrime(50)) {
            n--;
        }
        prime = n;
    }

    private static void need(boolean holds, RuntimeException otherwise) {
        if (!holds) {
            throw otherwise;
        }
    }

    private static void needIndex(boolean holds) {
        need(holds, new ArrayIndexOutOfBoundsException());
    }

    private void needNumbers(int n) {
        need(96 - next >= n, new IllegalStateException());
    }

    private void needPolynomials(int... all) {
        for (int p : all) {
            needIndex(p >= 0 && p < 96);
        }
    }

    long[] residues(int p) {
        return Naive.mod(rows[p], prime);
    }

    int keep(long[] row) {
        rows[next] = Arrays.copyOf(row, 32);
        return next++;
    }

    int poly() {
        needNumbers(1);
        return keep(new long[0]);
    }

    boolean set(int p, int k, int v) {
        needPolynomials(p);
        needIndex(k >= 0 && k < 32);
        long before = rows[p][k];
        rows[p] = Arrays.copyOf(residues(p), 32);
        rows[p][k] = Math.floorMod(v, prime);
        return rows[p][k] != before;
    }

    int times(int a, int b) {
        needPolynomials(a, b);
        needNumbers(1);
        long[] product = Naive.multiply(residues(a), residues(b), prime);
        need(product.length <= 32, new IllegalArgumentException());
        return keep(product);
    }

    int over(int a, int b, int what) {
        needPolynomials(a, b);
        needNumbers(1);
        need(what == 0 || what == 1, new IllegalArgumentException());
        need(residues(b).length > 0, new ArithmeticException());
        return keep(Naive.divide(residues(a), residues(b), prime)[what]);
    }

    int gcd(int a, int b) {
        needPolynomials(a, b);
        needNumbers(1);
        return keep(Naive.gcd(residues(a), residues(b), prime));
    }

    /** The factors in order, or null if trying would take too long. */
    List<long[]> distinctFactors(long[] row) {
        List<long[]> found = new ArrayList<>();
        long[] left = Naive.monic(row, prime);
        long tries = 0;
        for (int d = 1; 2 * d <= Naive.degree(left); d++) {
            long all = Math.round(Math.pow(prime, d));
            for (long n = 0; n < all && 2 * d <= Naive.degree(left); n++) {
                if (++tries > 3000) {
                    return null;
                }
                long[] trial = new long[d + 1];
                trial[d] = 1;
                long digits = n;
                for (int k = 0; k < d; k++, digits /= prime) {
                    trial[k] = digits % prime;
                }
                long[][] parts = Naive.divide(left, trial, prime);
                if (parts[1].length == 0) {
                    found.add(trial);
                }
                while (parts[1].length == 0) {
                    left = parts[0];
                    parts = Naive.divide(left, trial, prime);
                }
            }
        }
        if (Naive.degree(left) > 0) {
            found.add(left);
        }
        return found;
    }

    int countOf(long[] row, long[] factor) {
        int n = 0;
        for (long[][] parts = Naive.divide(row, factor, prime); parts[1].length == 0; n++) {
            parts = Naive.divide(parts[0], factor, prime);
        }
        return n;
    }

    int factor(int p) {
        needPolynomials(p);
        long[] row = residues(p);
        if (row.length == 0) {
            return -1;
        }
        needNumbers(Naive.degree(row));
        whole = row;
        factors = distinctFactors(row);
        exponents = new ArrayList<>();
        numbers = new ArrayList<>();
        for (long[] factor : factors) {
            exponents.add(countOf(row, factor));
            numbers.add(keep(factor));
        }
        return factors.size();
    }

    int factorOf(int k) {
        needIndex(k >= 0 && k < factors.size());
        return numbers.get(k);
    }

    int multiplicity(int k) {
        needIndex(k >= 0 && k < factors.size());
        return exponents.get(k);
    }

    int at(int p, int k) {
        needPolynomials(p);
        needIndex(k >= 0 && k < 32);
        return (int) rows[p][k];
    }

    int root(int p, int k) {
        needPolynomials(p);
        long[] row = residues(p);
        int seen = 0;
        for (int v = 0; v < prime; v++) {
            long value = 0;
            for (int i = row.length - 1; i >= 0; i--) {
                value = (value * v + row[i]) % prime;
            }
            if (value == 0 && seen++ == k) {
                return v;
            }
        }
        return -1;
    }

    int inverse(int v) {
        for (int u = 1; u < prime; u++) {
            if ((long) u * Math.floorMod(v, prime) % prime == 1) {
                return u;
            }
        }
        throw new ArithmeticException();
    }

    /** 0 if there is no such power. */
    long modulus(int power) {
        long m = 1;
        for (int i = 0; i < power && m <= Integer.MAX_VALUE; i++) {
            m *= prime;
        }
        return power < 1 || m > Integer.MAX_VALUE ? 0 : m;
    }

    /** The number that the lifted polynomial gets; the caller puts it there. */
    int lift(int k, int power) {
        needIndex(k >= 0 && k < factors.size());
        needNumbers(1);
        need(modulus(power) != 0, new IllegalArgumentException());
        return exponents.get(k) == 1 ? keep(new long[0]) : -1;
    }
}
