/**
 * Ideals of polynomials in four variables that are 0 or 1.
 *
 * The ideal consists of exactly the polynomials that are 0 at all zeros. At a
 * point that is no zero some generator is 1; its product with the polynomial
 * that is 1 at that point alone is that polynomial itself, and every polynomial
 * that is 0 at all zeros is a sum of such ones. So all answers about the ideal
 * can be worked out from its zeros.
 */
public final class BooleanBasis {
    public static final int NONE = -1;
    public static final int FULL = -2;

    private static final int MOST_GENERATORS = 6;
    private static final int VARIABLES = 4;
    // There are as many monomials as points, and both are numbered alike.
    private static final int POINTS = 16;
    private static final int ALL_POINTS = 65535;
    private static final int GREATEST_POLYNOMIAL = 65535;

    private final int[] generator = new int[MOST_GENERATORS];
    private int present = 0;
    private int zeroSet = ALL_POINTS;
    // rows[m] is the sum of m and its rest when m is bound, and 0 when m is free.
    private final int[] rows = new int[POINTS];

    public BooleanBasis() {
    }

    public int add(int f) {
        if (!isPolynomial(f)) {
            return NONE;
        }
        for (int i = 0; i < MOST_GENERATORS; i++) {
            if (!isGenerator(i)) {
                generator[i] = f;
                present |= 1 << i;
                workOutIdeal();
                return i;
            }
        }
        return FULL;
    }

    public boolean remove(int i) {
        if (!isGenerator(i)) {
            return false;
        }
        present &= ~(1 << i);
        workOutIdeal();
        return true;
    }

    public int generators() {
        return present;
    }

    public int product(int f, int g) {
        if (!isPolynomial(f) || !isPolynomial(g)) {
            return NONE;
        }
        int both = sumOverSubsets(f) & sumOverSubsets(g);
        return sumOverSubsets(both);
    }

    public int value(int f, int point) {
        if (!isPolynomial(f) || point < 0 || point >= POINTS) {
            return NONE;
        }
        return (sumOverSubsets(f) >> point) & 1;
    }

    public boolean contains(int f) {
        return isPolynomial(f) && vanishesAt(f, zeroSet);
    }

    public int rest(int f) {
        if (!isPolynomial(f)) {
            return NONE;
        }
        return reduce(f);
    }

    public int basisSize() {
        int size = 0;
        for (int m = 0; m < POINTS; m++) {
            if (isBasisHead(m)) {
                size++;
            }
        }
        return size;
    }

    public int basisAt(int i) {
        int before = 0;
        for (int m = 0; m < POINTS; m++) {
            if (isBasisHead(m)) {
                if (before == i) {
                    return rows[m];
                }
                before++;
            }
        }
        return NONE;
    }

    public int bound() {
        int monomials = 0;
        for (int m = 0; m < POINTS; m++) {
            if (rows[m] != 0) {
                monomials |= 1 << m;
            }
        }
        return monomials;
    }

    public int zeros() {
        return zeroSet;
    }

    public int zeroCount() {
        return countOf(zeroSet);
    }

    public int values(int i) {
        if (i < 0 || i >= VARIABLES) {
            return 0;
        }
        int seen = 0;
        for (int p = 0; p < POINTS; p++) {
            if (isIn(p, zeroSet)) {
                seen |= 1 << ((p >> i) & 1);
            }
        }
        return seen;
    }

    public boolean redundant(int i) {
        if (!isGenerator(i)) {
            return false;
        }
        int zerosOfOthers = commonZeros(present & ~(1 << i));
        return vanishesAt(generator[i], zerosOfOthers);
    }

    /**
     * A polynomial in vars alone looks only at the variables vars of a point.
     * One that is not 0 can be 0 at all zeros just when some way of giving
     * values to vars occurs at no zero.
     */
    public boolean relates(int vars) {
        if (vars < 0 || vars >= POINTS) {
            return false;
        }
        int possible = 0;
        int occurring = 0;
        for (int p = 0; p < POINTS; p++) {
            int seenPart = 1 << (p & vars);
            possible |= seenPart;
            if (isIn(p, zeroSet)) {
                occurring |= seenPart;
            }
        }
        return occurring != possible;
    }

    private static boolean isPolynomial(int f) {
        return f >= 0 && f <= GREATEST_POLYNOMIAL;
    }

    private boolean isGenerator(int i) {
        return i >= 0 && i < MOST_GENERATORS && isIn(i, present);
    }

    private static boolean isIn(int member, int set) {
        return ((set >> member) & 1) != 0;
    }

    private static int countOf(int set) {
        int count = 0;
        for (int p = 0; p < POINTS; p++) {
            if (isIn(p, set)) {
                count++;
            }
        }
        return count;
    }

    /**
     * Bit s of the answer is the sum modulo 2 of the bits of set at all subsets
     * of s. This turns a polynomial into its values at the points, and, being
     * its own inverse, also turns values into the polynomial that has them.
     */
    private static int sumOverSubsets(int set) {
        int sums = set;
        sums ^= (sums & 0x5555) << 1;
        sums ^= (sums & 0x3333) << 2;
        sums ^= (sums & 0x0f0f) << 4;
        sums ^= (sums & 0x00ff) << 8;
        return sums;
    }

    private static boolean vanishesAt(int f, int points) {
        return (sumOverSubsets(f) & points) == 0;
    }

    private int commonZeros(int chosen) {
        int common = ALL_POINTS;
        for (int i = 0; i < MOST_GENERATORS; i++) {
            if (isIn(i, chosen)) {
                common &= ~sumOverSubsets(generator[i]);
            }
        }
        return common;
    }

    private void workOutIdeal() {
        zeroSet = commonZeros(present);
        clearRows();
        // The polynomials that are 1 at one point alone, a point that is no
        // zero, span the ideal.
        for (int p = 0; p < POINTS; p++) {
            if (!isIn(p, zeroSet)) {
                int oneAtPoint = sumOverSubsets(1 << p);
                insertRow(oneAtPoint);
            }
        }
        finishRows();
    }

    private void clearRows() {
        for (int m = 0; m < POINTS; m++) {
            rows[m] = 0;
        }
    }

    private void insertRow(int f) {
        int reduced = reduce(f);
        for (int m = POINTS - 1; m >= 0; m--) {
            if (isIn(m, reduced)) {
                rows[m] = reduced;
                return;
            }
        }
    }

    // A row was reduced only by the rows that came before it. Going upwards,
    // the rows that a row still needs are finished already.
    private void finishRows() {
        for (int m = 0; m < POINTS; m++) {
            if (rows[m] != 0) {
                int head = 1 << m;
                rows[m] = head ^ reduce(rows[m] ^ head);
            }
        }
    }

    // Downwards, since a row brings in no monomial above its head.
    private int reduce(int f) {
        int left = f;
        for (int m = POINTS - 1; m >= 0; m--) {
            if (isIn(m, left)) {
                left ^= rows[m];
            }
        }
        return left;
    }

    private boolean isBasisHead(int m) {
        if (rows[m] == 0) {
            return false;
        }
        for (int n = 0; n < m; n++) {
            if ((n & m) == n && rows[n] != 0) {
                return false;
            }
        }
        return true;
    }
}
