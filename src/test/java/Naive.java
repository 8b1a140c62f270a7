import java.util.Arrays;

/** Schoolbook polynomials, lowest coefficient first, without zeros at the end; written apart from the program. */
final class Naive {
    private Naive() {
    }

    static long[] trim(long[] a) {
        int n = a.length;
        while (n > 0 && a[n - 1] == 0) {
            n--;
        }
        return Arrays.copyOf(a, n);
    }

    static long[] mod(long[] a, long m) {
        long[] r = new long[a.length];
        for (int i = 0; i < a.length; i++) {
            r[i] = Math.floorMod(a[i], m);
        }
        return trim(r);
    }

    static long[] row(ResidueRows x, int p) {
        long[] r = new long[32];
        for (int k = 0; k < 32; k++) {
            r[k] = x.at(p, k);
        }
        return trim(r);
    }

    static int degree(long[] a) {
        return a.length - 1;
    }

    static long invert(long v, long m) {
        return java.math.BigInteger.valueOf(v).modInverse(java.math.BigInteger.valueOf(m)).longValueExact();
    }

    static long[] multiply(long[] a, long[] b, long m) {
        long[] r = new long[Math.max(0, a.length + b.length - 1)];
        for (int i = 0; i < a.length; i++) {
            for (int j = 0; j < b.length; j++) {
                r[i + j] = (r[i + j] + a[i] * b[j] % m) % m;
            }
        }
        return trim(r);
    }

    static long[] subtract(long[] a, long[] b, long m) {
        long[] r = Arrays.copyOf(a, Math.max(a.length, b.length));
        for (int i = 0; i < b.length; i++) {
            r[i] = Math.floorMod(r[i] - b[i], m);
        }
        return trim(r);
    }

    /** Quotient and rest; the divisor's highest coefficient has an inverse. */
    static long[][] divide(long[] a, long[] b, long m) {
        long[] rest = a.clone();
        long[] quotient = new long[Math.max(0, a.length - b.length + 1)];
        long lead = b[b.length - 1] == 1 ? 1 : invert(b[b.length - 1], m);
        for (int i = a.length - b.length; i >= 0; i--) {
            long c = rest[i + b.length - 1] * lead % m;
            quotient[i] = c;
            for (int j = 0; j < b.length; j++) {
                rest[i + j] = Math.floorMod(rest[i + j] - c * b[j] % m, m);
            }
        }
        return new long[][] {trim(quotient), trim(rest)};
    }

    static long[] monic(long[] a, long m) {
        return a.length == 0 ? a : multiply(a, new long[] {invert(a[a.length - 1], m)}, m);
    }

    static long[] gcd(long[] a, long[] b, long m) {
        while (b.length > 0) {
            long[] rest = divide(a, b, m)[1];
            a = b;
            b = rest;
        }
        return monic(a, m);
    }

    static long[] power(long[] base, long exponent, long[] f, long m) {
        long[] result = divide(new long[] {1}, f, m)[1];
        long[] square = divide(base, f, m)[1];
        for (long e = exponent; e > 0; e >>= 1) {
            if ((e & 1) == 1) {
                result = divide(multiply(result, square, m), f, m)[1];
            }
            square = divide(multiply(square, square, m), f, m)[1];
        }
        return result;
    }

    /** Ben-Or's test. */
    static boolean isIrreducible(long[] f, long p) {
        long[] x = {0, 1};
        long[] h = x;
        for (int d = 1; 2 * d <= degree(f); d++) {
            h = power(h, p, f, p);
            if (degree(gcd(f, subtract(h, x, p), p)) > 0) {
                return false;
            }
        }
        return degree(f) > 0;
    }

    /** Whether a stands ahead of b in the document's order of factors. */
    static boolean isAhead(long[] a, long[] b) {
        if (a.length != b.length) {
            return a.length < b.length;
        }
        for (int k = a.length - 1; k >= 0; k--) {
            if (a[k] != b[k]) {
                return a[k] < b[k];
            }
        }
        return false;
    }

    /** The polynomial through its highest coefficient, modulo a power of the prime. */
    static long[] throughLead(long[] f, long modulus) {
        return mod(monic(f, modulus), modulus);
    }

    /** Whether g is the factor, lifted, of f: the three things that the document says of it. */
    static boolean isLifted(long[] g, long[] factor, long[] f, long prime, long modulus) {
        return g.length == factor.length && g[g.length - 1] == 1 && Arrays.equals(mod(g, prime), factor)
                && divide(throughLead(f, modulus), g, modulus)[1].length == 0;
    }
}
