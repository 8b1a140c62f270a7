import java.util.TreeSet;

/** Promise 11: root. */
final class RootTest {
    public static void main(String[] args) {
        Check check = new Check();
        ordinary(check);
        ofZero(check);
        allResidues(check);
        large(check);
        changesNothing(check);
        check.end();
    }

    private static void roots(Check check, ResidueRows x, int p, int... want) {
        for (int k = 0; k < want.length; k++) {
            int which = k;
            check.due("root(" + p + ", " + k + ")", () -> x.root(p, which), want[k]);
        }
        check.due("root behind the last", () -> x.root(p, want.length), -1);
        check.due("root(" + p + ", -1)", () -> x.root(p, -1), -1);
        check.due("root(" + p + ", MIN)", () -> x.root(p, Integer.MIN_VALUE), -1);
        check.due("root(" + p + ", MAX)", () -> x.root(p, Integer.MAX_VALUE), -1);
    }

    private static void ordinary(Check check) {
        ResidueRows x = new ResidueRows(7);
        // 2 x (x - 3)^2 (x - 5) (x^2 + 1)
        Check.make(x, 0, 2);
        Check.make(x, 9, -6, 1);
        Check.make(x, -5, 1);
        Check.make(x, 1, 0, 1);
        int all = x.times(x.times(0, 1), x.times(2, 3));
        roots(check, x, all, 0, 3, 5);
        roots(check, x, 0, 0);
        roots(check, x, 2, 5);
        roots(check, x, 3);
        Check.fill(x, 50, 6);
        roots(check, x, 50);
        int[] wrongs = {-1, 96, Integer.MIN_VALUE, Integer.MAX_VALUE};
        for (int p : wrongs) {
            check.outOfBounds("root(" + p + ", 0)", () -> x.root(p, 0));
        }
        ResidueRows two = new ResidueRows(2);
        Check.make(two, 0, 1, 1);
        Check.make(two, 1, 0, 1);
        Check.make(two, 1, 1, 1);
        roots(check, two, 0, 0, 1);
        roots(check, two, 1, 1);
        roots(check, two, 2);
    }

    private static void ofZero(Check check) {
        ResidueRows x = new ResidueRows(7);
        roots(check, x, 95, 0, 1, 2, 3, 4, 5, 6);
        ResidueRows big = new ResidueRows(Integer.MAX_VALUE);
        check.due("root(0, MAX - 1)", () -> big.root(0, Integer.MAX_VALUE - 1), Integer.MAX_VALUE - 1);
        check.due("root(0, MAX)", () -> big.root(0, Integer.MAX_VALUE), -1);
        check.due("root(0, -1)", () -> big.root(0, -1), -1);
        check.due("root(0, 31)", () -> big.root(0, 31), 31);
    }

    private static void allResidues(Check check) {
        ResidueRows x = new ResidueRows(29);
        x.set(0, 29, 1);
        x.set(0, 1, -1);
        int[] want = new int[29];
        for (int k = 0; k < 29; k++) {
            want[k] = k;
        }
        roots(check, x, 0, want);
    }

    private static void large(Check check) {
        int[] primes = {Integer.MAX_VALUE, 2147483629, 1000003, 65537, 257};
        java.util.Random random = new java.util.Random(11);
        for (int prime : primes) {
            for (int run = 0; run < 6; run++) {
                ResidueRows x = new ResidueRows(prime);
                TreeSet<Integer> roots = new TreeSet<>();
                long[] row = {random.nextInt(prime - 1) + 1};
                for (int i = 0; i < 31; i++) {
                    int root = run < 2 ? i : random.nextInt(prime);
                    roots.add(root);
                    row = Naive.multiply(row, Naive.mod(new long[] {-root, 1}, prime), prime);
                }
                Check.fill(x, 0, row);
                roots(check, x, 0, roots.stream().mapToInt(Integer::intValue).toArray());
            }
        }
    }

    /** Roots use the same means as factors; what was factored must stay all the same, and sets must be seen. */
    private static void changesNothing(Check check) {
        ResidueRows x = new ResidueRows(7);
        Check.make(x, -1, 0, 1);
        Check.make(x, 0, 0, 1);
        x.factor(0, 0);
        roots(check, x, 1, 0);
        check.due("factorOf(1)", () -> x.factorOf(1), 3);
        check.due("multiplicity(0)", () -> x.multiplicity(0), 1);
        int lifted = x.lift(1, 2);
        check.row("x^2 + 6 has the factor x + 27 modulo 49", x, lifted, 27, 1);
        roots(check, x, lifted, 1);
        x.set(1, 0, -4);
        roots(check, x, 1, 2, 5);
        x.set(1, 0, -2);
        roots(check, x, 1, 3, 4);
    }
}
