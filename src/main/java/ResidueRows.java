import java.util.Arrays;

/** Polynomials over the residues modulo a prime: products, quotients, factors, roots, and lifted factors. */
public final class ResidueRows {
    private static final int POLYNOMIALS = 96;
    private static final int SIZE = 32;
    private static final int GREATEST_DEGREE = SIZE - 1;
    private static final long GREATEST_MODULUS = 2147483647L;

    private final int prime;
    private final int[][] rows;
    private final Residues residues;
    private final Splitter splitter;
    private final Lifter lifter;
    private final Factored latest;
    private final int[] left;
    private final int[] right;
    private final int[] made;
    private int next;

    public ResidueRows(int prime) {
        this.prime = greatestPrimeUpTo(prime);
        rows = new int[POLYNOMIALS][SIZE];
        residues = new Residues(this.prime);
        splitter = new Splitter(this.prime, residues);
        lifter = new Lifter(this.prime, residues);
        latest = new Factored();
        left = new int[SIZE];
        right = new int[SIZE];
        made = new int[SIZE];
        next = 0;
    }

    public int poly() throws IllegalStateException {
        needNumbers(1);
        Arrays.fill(made, 0);
        return keep(made);
    }

    public boolean set(int p, int k, int v) throws ArrayIndexOutOfBoundsException {
        needPolynomial(p);
        needCoefficient(k);
        int[] row = rows[p];
        int before = row[k];
        // What was lifted may hold more than residues; for any other row this changes nothing.
        readResidues(p, row);
        row[k] = Math.floorMod(v, prime);
        return row[k] != before;
    }

    public int times(int a, int b)
            throws ArrayIndexOutOfBoundsException, IllegalStateException, IllegalArgumentException {
        needPolynomial(a);
        needPolynomial(b);
        needNumbers(1);
        readResidues(a, left);
        readResidues(b, right);
        // The degree -1 of a polynomial 0 keeps the sum low enough, as its product's degree is.
        if (degree(left) + degree(right) > GREATEST_DEGREE) {
            throw new IllegalArgumentException("the product's degree is above 31");
        }
        residues.product(left, right, made);
        return keep(made);
    }

    public int over(int a, int b, int what)
            throws ArrayIndexOutOfBoundsException, IllegalStateException, IllegalArgumentException,
            ArithmeticException {
        needPolynomial(a);
        needPolynomial(b);
        needNumbers(1);
        if (what != 0 && what != 1) {
            throw new IllegalArgumentException("what is neither 0 nor 1");
        }
        readResidues(a, left);
        readResidues(b, right);
        int degree = degree(right);
        if (degree < 0) {
            throw new ArithmeticException("the divisor is 0");
        }
        long scale = Residues.reciprocal(right[degree], prime);
        residues.makeMonic(right);
        if (what == 0) {
            residues.quotient(left, right, made);
            residues.scale(made, scale, prime);
        } else {
            residues.rest(left, right, prime, made);
        }
        return keep(made);
    }

    public int gcd(int a, int b) throws ArrayIndexOutOfBoundsException, IllegalStateException {
        needPolynomial(a);
        needPolynomial(b);
        needNumbers(1);
        readResidues(a, left);
        readResidues(b, right);
        residues.commonDivisor(left, right, made);
        return keep(made);
    }

    public int factor(int p, long seed) throws ArrayIndexOutOfBoundsException, IllegalStateException {
        needPolynomial(p);
        readResidues(p, left);
        int degree = degree(left);
        if (degree < 0) {
            return -1;
        }
        needNumbers(degree);
        splitter.split(left);
        latest.take(left, splitter);
        for (int k = 0; k < latest.count; k++) {
            latest.numbers[k] = keep(latest.factors[k]);
        }
        return latest.count;
    }

    public int factorOf(int k) throws ArrayIndexOutOfBoundsException {
        needFactor(k);
        return latest.numbers[k];
    }

    public int multiplicity(int k) throws ArrayIndexOutOfBoundsException {
        needFactor(k);
        return latest.exponents[k];
    }

    public int at(int p, int k) throws ArrayIndexOutOfBoundsException {
        needPolynomial(p);
        needCoefficient(k);
        return rows[p][k];
    }

    public int root(int p, int k) throws ArrayIndexOutOfBoundsException {
        needPolynomial(p);
        readResidues(p, left);
        if (degree(left) < 0) {
            return k >= 0 && k < prime ? k : -1;
        }
        splitter.split(left);
        return splitter.rootInOrder(k);
    }

    public int inverse(int v) throws ArithmeticException {
        int residue = Math.floorMod(v, prime);
        if (residue == 0) {
            throw new ArithmeticException("0 has no inverse");
        }
        return (int) Residues.reciprocal(residue, prime);
    }

    public int lift(int k, int power)
            throws ArrayIndexOutOfBoundsException, IllegalStateException, IllegalArgumentException {
        needFactor(k);
        needNumbers(1);
        long modulus = powerOfPrime(power);
        if (modulus == 0) {
            throw new IllegalArgumentException("the power is below 1 or too great");
        }
        if (latest.exponents[k] != 1) {
            return -1;
        }
        lifter.raise(latest.whole, latest.factors[k], power, modulus, made);
        return keep(made);
    }

    private void needPolynomial(int p) {
        if (p < 0 || p >= POLYNOMIALS) {
            throw new ArrayIndexOutOfBoundsException("no such polynomial");
        }
    }

    private void needCoefficient(int k) {
        if (k < 0 || k >= SIZE) {
            throw new ArrayIndexOutOfBoundsException("no such coefficient");
        }
    }

    private void needFactor(int k) {
        if (k < 0 || k >= latest.count) {
            throw new ArrayIndexOutOfBoundsException("no such factor");
        }
    }

    private void needNumbers(int wanted) {
        if (POLYNOMIALS - next < wanted) {
            throw new IllegalStateException("too few numbers are left");
        }
    }

    /** Gives the row the next number; its callers have made sure that there is one. */
    private int keep(int[] row) {
        int number = next;
        copy(row, rows[number]);
        next++;
        return number;
    }

    private void readResidues(int p, int[] to) {
        int[] row = rows[p];
        for (int k = 0; k < SIZE; k++) {
            to[k] = row[k] % prime;
        }
    }

    /** The prime to the power; 0 where that is no modulus to lift to. */
    private long powerOfPrime(int power) {
        if (power < 1) {
            return 0;
        }
        long product = 1;
        for (int i = 0; i < power && product <= GREATEST_MODULUS; i++) {
            product *= prime;
        }
        return product <= GREATEST_MODULUS ? product : 0;
    }

    private static int greatestPrimeUpTo(int number) {
        for (int n = number; n > 2; n--) {
            if (isOddPrime(n)) {
                return n;
            }
        }
        return 2;
    }

    private static boolean isOddPrime(int n) {
        if (n % 2 == 0) {
            return false;
        }
        for (int divisor = 3; divisor <= n / divisor; divisor += 2) {
            if (n % divisor == 0) {
                return false;
            }
        }
        return true;
    }

    private static int degree(int[] row) {
        for (int k = SIZE - 1; k >= 0; k--) {
            if (row[k] != 0) {
                return k;
            }
        }
        return -1;
    }

    private static void copy(int[] from, int[] to) {
        System.arraycopy(from, 0, to, 0, SIZE);
    }

    /** Below 0 if a stands ahead of b among factors, 0 if they are the same. */
    private static int compareRows(int[] a, int[] b) {
        for (int k = SIZE - 1; k >= 0; k--) {
            if (a[k] != b[k]) {
                return a[k] < b[k] ? -1 : 1;
            }
        }
        return 0;
    }

    /** The arithmetic of rows of SIZE coefficients. A divisor is always monic and not 0. */
    private static final class Residues {
        private final long prime;
        // Sums that are not reduced yet, each below the modulus squared, so that two of them fit into a long.
        private final long[] wide;
        private final int[] dividend;
        private final int[] divisor;

        Residues(int prime) {
            this.prime = prime;
            wide = new long[2 * SIZE];
            dividend = new int[SIZE];
            divisor = new int[SIZE];
        }

        /** What times v is 1 modulo the modulus; 0 if there is no such number. */
        static long reciprocal(long v, long modulus) {
            long above = modulus;
            long rest = v;
            long aboveTimes = 0;
            long restTimes = 1;
            // Numbers below 2^31 need less than 50 steps.
            for (int step = 0; step < 100 && rest > 1; step++) {
                long quotient = above / rest;
                long lower = above - quotient * rest;
                long lowerTimes = aboveTimes - quotient * restTimes;
                above = rest;
                aboveTimes = restTimes;
                rest = lower;
                restTimes = lowerTimes;
            }
            return rest == 1 && modulus > 0 ? Math.floorMod(restTimes, modulus) : 0;
        }

        /** The product must have a degree below SIZE. */
        void product(int[] a, int[] b, int[] to) {
            multiplyWide(a, b, degree(b));
            narrowRest(SIZE, prime, to);
        }

        void productRest(int[] a, int[] b, int[] monic, int[] to) {
            int degree = degree(monic);
            multiplyWide(a, b, degree(b));
            divideWide(monic, degree, prime);
            narrowRest(degree, prime, to);
        }

        void rest(int[] a, int[] monic, long modulus, int[] to) {
            int degree = degree(monic);
            widen(a);
            divideWide(monic, degree, modulus);
            narrowRest(degree, modulus, to);
        }

        void quotient(int[] a, int[] monic, int[] to) {
            int degree = Math.max(degree(monic), 0);
            widen(a);
            divideWide(monic, degree, prime);
            for (int k = 0; k < SIZE; k++) {
                to[k] = (int) wide[k + degree];
            }
        }

        /** The row to is none of the other two. */
        void power(int[] base, int exponent, int[] monic, int[] to) {
            Arrays.fill(to, 0);
            to[0] = 1;
            for (int bit = 30; bit >= 0; bit--) {
                productRest(to, to, monic, to);
                if ((exponent >> bit & 1) == 1) {
                    productRest(base, to, monic, to);
                }
            }
        }

        void scale(int[] row, long factor, long modulus) {
            for (int k = 0; k < SIZE; k++) {
                row[k] = (int) (row[k] * factor % modulus);
            }
        }

        void makeMonic(int[] row) {
            int degree = degree(row);
            if (degree >= 0 && row[degree] != 1) {
                scale(row, reciprocal(row[degree], prime), prime);
            }
        }

        void commonDivisor(int[] a, int[] b, int[] to) {
            int[] high = dividend;
            int[] low = divisor;
            copy(a, high);
            copy(b, low);
            // The degree of the lower one falls with each step.
            for (int step = 0; step <= SIZE && degree(low) >= 0; step++) {
                makeMonic(low);
                rest(high, low, prime, high);
                int[] swapped = high;
                high = low;
                low = swapped;
            }
            makeMonic(high);
            copy(high, to);
        }

        private void widen(int[] row) {
            Arrays.fill(wide, 0);
            for (int k = 0; k < SIZE; k++) {
                wide[k] = row[k];
            }
        }

        private void multiplyWide(int[] a, int[] b, int degree) {
            Arrays.fill(wide, 0);
            long limit = prime * prime;
            for (int i = 0; i < SIZE; i++) {
                long factor = a[i];
                for (int j = 0; factor != 0 && j <= degree; j++) {
                    long sum = wide[i + j] + factor * b[j];
                    wide[i + j] = sum >= limit ? sum - limit : sum;
                }
            }
        }

        /** Leaves the quotient, reduced, from the divisor's degree on, and the rest below it. */
        private void divideWide(int[] monic, int degree, long modulus) {
            long limit = modulus * modulus;
            for (int i = 2 * SIZE - 1; degree >= 0 && i >= degree; i--) {
                wide[i] %= modulus;
                long factor = wide[i] == 0 ? 0 : modulus - wide[i];
                for (int j = 0; factor != 0 && j < degree; j++) {
                    int k = i - degree + j;
                    long sum = wide[k] + factor * monic[j];
                    wide[k] = sum >= limit ? sum - limit : sum;
                }
            }
        }

        private void narrowRest(int length, long modulus, int[] to) {
            for (int k = 0; k < SIZE; k++) {
                to[k] = k < length ? (int) (wide[k] % modulus) : 0;
            }
        }
    }

    /**
     * Finds the factors of a polynomial by Berlekamp's way. A row is called fixed if its prime-th power is itself
     * modulo the polynomial: it then is a constant modulo each factor's full power, the fixed rows have as many
     * dimensions as there are factors, and for any two factors one of a basis has two different constants.
     */
    private static final class Splitter {
        private final int prime;
        private final Residues residues;
        private final int[] known;
        private final int[][] parts;
        private final int[] exponents;
        private final int[][] matrix;
        private final int[] pivotRows;
        private final int[][] fixed;
        private final int[] image;
        private final int[] sign;
        private final int[] shared;
        private int count;
        private int dimensions;

        Splitter(int prime, Residues residues) {
            this.prime = prime;
            this.residues = residues;
            known = new int[SIZE];
            parts = new int[GREATEST_DEGREE][SIZE];
            exponents = new int[GREATEST_DEGREE];
            matrix = new int[GREATEST_DEGREE][SIZE];
            pivotRows = new int[GREATEST_DEGREE];
            fixed = new int[GREATEST_DEGREE][SIZE];
            image = new int[SIZE];
            sign = new int[SIZE];
            shared = new int[SIZE];
            count = 0;
            dimensions = 0;
        }

        /** Leaves the factors in order in parts. */
        void split(int[] row) {
            // Roots are mostly asked for one after another: the same polynomial is not split again.
            if (compareRows(row, known) == 0) {
                return;
            }
            copy(row, known);
            count = 0;
            int degree = degree(row);
            if (degree < 1) {
                return;
            }
            copy(row, parts[0]);
            residues.makeMonic(parts[0]);
            count = 1;
            fillMatrix(parts[0], degree);
            findFixed(degree);
            for (int i = 0; i < dimensions; i++) {
                splitBy(fixed[i]);
            }
            for (int i = 0; i < count; i++) {
                reduceToFactor(i);
            }
            sortFactors();
        }

        /** The linear factors stand first, by their constants: the negatives of the roots. */
        int rootInOrder(int k) {
            int linear = 0;
            while (linear < count && degree(parts[linear]) == 1) {
                linear++;
            }
            if (k < 0 || k >= linear) {
                return -1;
            }
            boolean hasZero = parts[0][0] == 0;
            if (hasZero && k == 0) {
                return 0;
            }
            int index = hasZero ? linear - k : linear - 1 - k;
            return prime - parts[index][0];
        }

        /** Row i becomes the letter to the power i times the prime, less the letter to the power i. */
        private void fillMatrix(int[] whole, int degree) {
            Arrays.fill(shared, 0);
            shared[1] = 1;
            residues.power(shared, prime, whole, image);
            Arrays.fill(sign, 0);
            sign[0] = 1;
            for (int i = 0; i < degree; i++) {
                copy(sign, matrix[i]);
                matrix[i][i] = lessOne(matrix[i][i]);
                residues.productRest(sign, image, whole, sign);
            }
        }

        /** Finds a basis of the rows that the matrix takes to 0: Knuth's Algorithm N, by steps on its columns. */
        private void findFixed(int degree) {
            Arrays.fill(pivotRows, -1);
            dimensions = 0;
            for (int i = 0; i < degree; i++) {
                int column = freeColumn(i, degree);
                if (column < 0) {
                    keepFixed(i, degree);
                } else {
                    clearBelow(i, column, degree);
                    pivotRows[column] = i;
                }
            }
        }

        private int freeColumn(int i, int degree) {
            for (int column = 0; column < degree; column++) {
                if (pivotRows[column] < 0 && matrix[i][column] != 0) {
                    return column;
                }
            }
            return -1;
        }

        private void keepFixed(int i, int degree) {
            int[] row = fixed[dimensions];
            Arrays.fill(row, 0);
            row[i] = 1;
            for (int column = 0; column < degree; column++) {
                if (pivotRows[column] >= 0) {
                    row[pivotRows[column]] = matrix[i][column];
                }
            }
            dimensions++;
        }

        /** The rows up to the pivot's own are never read again, so they stay as they are. */
        private void clearBelow(int pivotRow, int pivotColumn, int degree) {
            int[] pivot = matrix[pivotRow];
            long scale = prime - Residues.reciprocal(pivot[pivotColumn], prime);
            for (int i = pivotRow + 1; i < degree; i++) {
                int[] row = matrix[i];
                long factor = row[pivotColumn] * scale % prime;
                for (int column = 0; factor != 0 && column < degree; column++) {
                    row[column] = (int) ((row[column] + factor * pivot[column]) % prime);
                }
                row[pivotColumn] = (int) factor;
            }
        }

        /** Splits the parts until the row is a constant modulo each: for two constants some shift always works. */
        private void splitBy(int[] row) {
            boolean isOpen = true;
            for (int shift = 0; shift < prime && isOpen && count < dimensions; shift++) {
                isOpen = false;
                int before = count;
                for (int i = 0; i < before; i++) {
                    residues.rest(row, parts[i], prime, image);
                    if (degree(image) > 0) {
                        isOpen = true;
                        splitPart(i, shift);
                    }
                }
            }
        }

        /** Parts the factors where image and shift make a square other than 0 (of the prime 2: make 0) from others. */
        private void splitPart(int i, int shift) {
            int[] part = parts[i];
            image[0] = (int) (((long) image[0] + shift) % prime);
            if (prime == 2) {
                copy(image, sign);
            } else {
                residues.power(image, (prime - 1) / 2, part, sign);
                sign[0] = lessOne(sign[0]);
            }
            residues.commonDivisor(sign, part, shared);
            int degree = degree(shared);
            if (degree > 0 && degree < degree(part) && count < GREATEST_DEGREE) {
                residues.quotient(part, shared, parts[count]);
                copy(shared, part);
                count++;
            }
        }

        /** A part is a power of one factor: it becomes that factor. */
        private void reduceToFactor(int i) {
            int[] part = parts[i];
            int fullDegree = degree(part);
            derive(part, image);
            // A derivative 0 tells that the part is a prime-th power; below degree 32 that happens 4 times at most.
            for (int step = 0; step < SIZE && degree(image) < 0; step++) {
                takePrimeRoot(part);
                derive(part, image);
            }
            residues.commonDivisor(part, image, shared);
            residues.quotient(part, shared, part);
            int degree = degree(part);
            exponents[i] = degree > 0 ? fullDegree / degree : 0;
        }

        private void derive(int[] row, int[] to) {
            Arrays.fill(to, 0);
            for (int k = 1; k < SIZE; k++) {
                to[k - 1] = (int) ((long) k * row[k] % prime);
            }
        }

        /** Each residue is its own prime-th power, so only the letter's powers change. */
        private void takePrimeRoot(int[] row) {
            for (int k = 0; k < SIZE; k++) {
                long from = (long) k * prime;
                row[k] = from < SIZE ? row[(int) from] : 0;
            }
        }

        private void sortFactors() {
            for (int i = 1; i < count; i++) {
                for (int j = i; j > 0 && compareRows(parts[j], parts[j - 1]) < 0; j--) {
                    swapFactors(j, j - 1);
                }
            }
        }

        private void swapFactors(int i, int j) {
            int[] part = parts[i];
            parts[i] = parts[j];
            parts[j] = part;
            int exponent = exponents[i];
            exponents[i] = exponents[j];
            exponents[j] = exponent;
        }

        private int lessOne(int residue) {
            return residue == 0 ? prime - 1 : residue - 1;
        }
    }

    /** What was factored latest, kept apart since the numbered polynomials may change. */
    private static final class Factored {
        private final int[] whole;
        private final int[][] factors;
        private final int[] exponents;
        private final int[] numbers;
        private int count;

        Factored() {
            whole = new int[SIZE];
            factors = new int[GREATEST_DEGREE][SIZE];
            exponents = new int[GREATEST_DEGREE];
            numbers = new int[GREATEST_DEGREE];
            count = 0;
        }

        void take(int[] row, Splitter splitter) {
            copy(row, whole);
            count = splitter.count;
            for (int k = 0; k < count; k++) {
                copy(splitter.parts[k], factors[k]);
                exponents[k] = splitter.exponents[k];
            }
        }
    }

    /** Lifts a factor digit by digit, each digit a polynomial modulo the prime. */
    private static final class Lifter {
        private final int prime;
        private final Residues residues;
        private final int[] target;
        private final int[] cofactor;
        private final int[] digit;
        private int[] high;
        private int[] low;
        private int[] highTimes;
        private int[] lowTimes;

        Lifter(int prime, Residues residues) {
            this.prime = prime;
            this.residues = residues;
            target = new int[SIZE];
            cofactor = new int[SIZE];
            digit = new int[SIZE];
            high = new int[SIZE];
            low = new int[SIZE];
            highTimes = new int[SIZE];
            lowTimes = new int[SIZE];
        }

        /** The modulus is the prime to the power; the factor divides the whole just once. */
        void raise(int[] whole, int[] factor, int power, long modulus, int[] to) {
            copy(whole, cofactor);
            residues.makeMonic(cofactor);
            residues.quotient(cofactor, factor, cofactor);
            invertCofactor(factor);
            divideByLead(whole, modulus);
            copy(factor, to);
            long step = prime;
            for (int i = 1; i < power; i++) {
                addDigit(factor, step, modulus, to);
                step *= prime;
            }
        }

        private void divideByLead(int[] whole, long modulus) {
            copy(whole, target);
            int degree = degree(whole);
            if (degree >= 0) {
                residues.scale(target, Residues.reciprocal(whole[degree], modulus), modulus);
            }
        }

        /** What to leaves of the target is a multiple of the step, and tells the next digit. */
        private void addDigit(int[] factor, long step, long modulus, int[] to) {
            residues.rest(target, to, modulus, digit);
            for (int k = 0; k < SIZE && step > 0; k++) {
                digit[k] = (int) (digit[k] / step % prime);
            }
            residues.productRest(digit, cofactor, factor, digit);
            for (int k = 0; k < SIZE; k++) {
                to[k] = (int) (to[k] + step * digit[k]);
            }
        }

        /** The cofactor becomes what times it is 1 modulo the factor: Euclid's steps, high and low with their times. */
        private void invertCofactor(int[] factor) {
            copy(factor, high);
            Arrays.fill(highTimes, 0);
            residues.rest(cofactor, factor, prime, low);
            Arrays.fill(lowTimes, 0);
            lowTimes[0] = 1;
            for (int step = 0; step <= SIZE && degree(low) > 0; step++) {
                stepDown();
            }
            copy(lowTimes, cofactor);
            residues.scale(cofactor, Residues.reciprocal(low[0], prime), prime);
        }

        private void stepDown() {
            long scale = Residues.reciprocal(low[Math.max(degree(low), 0)], prime);
            residues.scale(low, scale, prime);
            residues.scale(lowTimes, scale, prime);
            residues.quotient(high, low, digit);
            residues.rest(high, low, prime, high);
            residues.product(digit, lowTimes, digit);
            for (int k = 0; k < SIZE; k++) {
                highTimes[k] = (int) (((long) highTimes[k] + prime - digit[k]) % prime);
            }
            int[] swapped = high;
            high = low;
            low = swapped;
            swapped = highTimes;
            highTimes = lowTimes;
            lowTimes = swapped;
        }
    }
}
