import java.util.TreeSet;

/** Promise 11: root. */
final class RootTest {
    private static final Check check = new Check();

    public static void main(String[] args) {
        check.says("The k-th root of a polynomial, from 0 on, the least first: a residue where it is 0; -1 if there is "
                + "none such.");
        ordinary();
        primeTwo();
        ofZero();
        ofConstants();
        rootZero();
        rootsThatAreThereMoreThanOnce();
        noRoot();
        allResidues();
        large();
        changesNothing();
        check.says("ArrayIndexOutOfBoundsException: no such polynomial, coefficient, or factor");
        wrong();
        check.end();
    }

    /** All roots in order, and none below 0, at the count and beyond. */
    private static void roots(ResidueRows x, int p, int... want) {
        for (int k = 0; k < want.length; k++) {
            int which = k;
            check.due("root(" + p + ", " + k + ")", () -> x.root(p, which), want[k]);
        }
        check.due("root(" + p + ", ..) at the count", () -> x.root(p, want.length), -1);
        check.due("root(" + p + ", ..) beyond the count", () -> x.root(p, want.length + 1), -1);
        check.due("root(" + p + ", -1)", () -> x.root(p, -1), -1);
        check.due("root(" + p + ", MIN)", () -> x.root(p, Integer.MIN_VALUE), -1);
        check.due("root(" + p + ", MAX)", () -> x.root(p, Integer.MAX_VALUE), -1);
    }

    private static void ordinary() {
        ResidueRows x = new ResidueRows(7);
        // 2 x (x - 3)^2 (x - 5) (x^2 + 1)
        Check.make(x, 0, 2);
        Check.make(x, 9, -6, 1);
        Check.make(x, -5, 1);
        Check.make(x, 1, 0, 1);
        int all = x.times(x.times(0, 1), x.times(2, 3));
        roots(x, all, 0, 3, 5);
        roots(x, 0, 0);
        roots(x, 2, 5);
        check.due("roots make no polynomial", () -> x.poly(), all + 1);
    }

    private static void primeTwo() {
        ResidueRows two = new ResidueRows(2);
        Check.make(two, 0, 1, 1);
        Check.make(two, 1, 0, 1);
        Check.make(two, 1, 1, 1);
        Check.make(two, 0, 0, 1);
        roots(two, 0, 0, 1);
        roots(two, 1, 1);
        roots(two, 2);
        roots(two, 3, 0);
        roots(two, 90, 0, 1);
    }

    /** Every residue is a root of a polynomial 0. */
    private static void ofZero() {
        ResidueRows x = new ResidueRows(7);
        roots(x, 95, 0, 1, 2, 3, 4, 5, 6);
        int[] primes = {2, 3, 31, 37, 65537, 2147483629, Integer.MAX_VALUE};
        for (int prime : primes) {
            ResidueRows y = new ResidueRows(prime);
            check.due("k below 0", () -> y.root(0, -1), -1);
            check.due("k below 0", () -> y.root(0, Integer.MIN_VALUE), -1);
            check.due("k less than 0 by the prime", () -> y.root(0, -prime), -1);
            check.due("k 0", () -> y.root(0, 0), 0);
            check.due("k 1", () -> y.root(0, 1), 1);
            check.due("k the prime less 1", () -> y.root(0, prime - 1), prime - 1);
            check.due("k the prime", () -> y.root(0, prime), -1);
            check.due("k the greatest", () -> y.root(0, Integer.MAX_VALUE), -1);
        }
        ResidueRows big = new ResidueRows(Integer.MAX_VALUE);
        check.due("k 31", () -> big.root(0, 31), 31);
        check.due("k 32", () -> big.root(0, 32), 32);
    }

    private static void ofConstants() {
        int[] primes = {2, 7, Integer.MAX_VALUE};
        for (int prime : primes) {
            ResidueRows x = new ResidueRows(prime);
            Check.make(x, 1);
            Check.make(x, -1);
            roots(x, 0);
            roots(x, 1);
        }
    }

    private static void rootZero() {
        int[] primes = {2, 7, Integer.MAX_VALUE};
        for (int prime : primes) {
            ResidueRows x = new ResidueRows(prime);
            Check.make(x, 0, 1);
            Check.make(x, 0, -1);
            Check.make(x);
            x.set(2, 31, 1);
            Check.make(x, 0, -1, 1);
            roots(x, 0, 0);
            roots(x, 1, 0);
            roots(x, 2, 0);
            roots(x, 3, 0, 1);
            Check.make(x, 0, 1, 1);
            roots(x, 4, 0, prime - 1);
        }
    }

    /** A root is told once, however often it is one. */
    private static void rootsThatAreThereMoreThanOnce() {
        int[] primes = {7, 11, 65537, Integer.MAX_VALUE};
        for (int prime : primes) {
            ResidueRows x = new ResidueRows(prime);
            long[] row = {3};
            int[] roots = {0, 0, 0, 1, 2, 2, 5, 5, 5, 5, 5, 5, 5, 6};
            for (int root : roots) {
                row = Naive.multiply(row, Naive.mod(new long[] {-root, 1}, prime), prime);
            }
            Check.make(x, row);
            roots(x, 0, 0, 1, 2, 5, 6);
        }
        ResidueRows two = new ResidueRows(2);
        Check.make(two, 1);
        two.set(0, 16, 1);
        roots(two, 0, 1);
        ResidueRows three = new ResidueRows(31);
        Check.make(three, -4);
        three.set(0, 31, 1);
        roots(three, 0, 4);
    }

    private static void noRoot() {
        ResidueRows x = new ResidueRows(7);
        // 3 (x^2 + 1)^2, and x^3 + 2, where 2 is no cube less than 0
        Check.make(x, 3, 0, 6, 0, 3);
        Check.make(x, 2, 0, 0, 1);
        roots(x, 0);
        roots(x, 1);
        ResidueRows big = new ResidueRows(Integer.MAX_VALUE);
        Check.make(big, 1, 0, 1);
        roots(big, 0);
    }

    private static void allResidues() {
        ResidueRows x = new ResidueRows(29);
        x.set(0, 29, 1);
        x.set(0, 1, -1);
        int[] want = new int[29];
        for (int k = 0; k < 29; k++) {
            want[k] = k;
        }
        roots(x, 0, want);
    }

    private static void large() {
        int[] primes = {Integer.MAX_VALUE, 2147483629, 1000003, 65537, 257};
        java.util.Random random = new java.util.Random(11);
        for (int prime : primes) {
            for (int run = 0; run < 6; run++) {
                ResidueRows x = new ResidueRows(prime);
                TreeSet<Integer> roots = new TreeSet<>();
                long[] row = {random.nextInt(prime - 1) + 1};
                for (int i = 0; i < 31; i++) {
                    int root = run < 2 ? i : random.nextInt(prime);
                    roots.add(root);
                    row = Naive.multiply(row, Naive.mod(new long[] {-root, 1}, prime), prime);
                }
                Check.fill(x, 0, row);
                roots(x, 0, roots.stream().mapToInt(Integer::intValue).toArray());
            }
        }
    }

    /** Roots use the same means as factors; what was factored must stay all the same, and sets must be seen. */
    private static void changesNothing() {
        ResidueRows x = new ResidueRows(7);
        Check.make(x, -1, 0, 1);
        Check.make(x, 0, 0, 1);
        x.factor(0, 0);
        roots(x, 1, 0);
        check.due("factorOf(1)", () -> x.factorOf(1), 3);
        check.due("multiplicity(0)", () -> x.multiplicity(0), 1);
        int lifted = x.lift(1, 2);
        check.row("x^2 + 6 has the factor x + 27 modulo 49", x, lifted, 27, 1);
        roots(x, lifted, 1);
        x.set(1, 0, -4);
        roots(x, 1, 2, 5);
        x.set(1, 0, -2);
        roots(x, 1, 3, 4);
    }

    private static void wrong() {
        ResidueRows x = new ResidueRows(7);
        int[] wrongs = {-1, 96, Integer.MIN_VALUE, Integer.MAX_VALUE};
        for (int p : wrongs) {
            check.outOfBounds("root(" + p + ", 0)", () -> x.root(p, 0));
            check.outOfBounds("root(" + p + ", -1)", () -> x.root(p, -1));
        }
    }
}
