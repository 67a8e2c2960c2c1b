import java.util.Arrays;

/**
 * Long runs of mixed calls, wrong ones among them, on one object each, held
 * against a plain model. The numbers come from a fixed rule: every run of the
 * test makes the same calls.
 */
public final class MixedCallsTest {
    private static final int RUNS = 300;
    private static final int CALLS = 512;
    private static final int[] WRONG_NUMBERS = {
        -1, -2, -32, -65536, Integer.MIN_VALUE, Integer.MAX_VALUE, 65536, 65537, 131071, 1 << 16, 1 << 30
    };
    // Products of few variables make ideals that are neither all nor nothing.
    private static final int[] PLAIN_POLYNOMIALS = {
        0, 1, 2, 4, 6, 8, 16, 18, 20, 22, 64, 128, 256, 257, 278, 1024, 4096, 4112, 16384, 32768, 32769, 65535
    };

    private static final Due DUE = new Due();
    private static long state = 20261115L;

    // The model: the polynomial of each number, or -1 where there is none.
    private static final int[] HELD = new int[6];
    private static Definitions.Ideal ideal;
    private static int[] basis;

    public static void main(String[] args) {
        for (int run = 0; run < RUNS; run++) {
            BooleanBasis x = new BooleanBasis();
            Arrays.fill(HELD, -1);
            refresh();
            for (int call = 0; call < CALLS; call++) {
                makeCall(x, "run " + run + ", call " + call + ": ");
            }
        }
        DUE.end();
    }

    private static int pick(int below) {
        state = state * 6364136223846793005L + 1442695040888963407L;
        return (int) ((state >>> 33) % below);
    }

    private static int somePolynomial() {
        int kind = pick(10);
        if (kind == 0) {
            return WRONG_NUMBERS[pick(WRONG_NUMBERS.length)];
        }
        if (kind < 5) {
            return PLAIN_POLYNOMIALS[pick(PLAIN_POLYNOMIALS.length)];
        }
        if (kind < 8) {
            // Few zeros lost: 1 at one or two points alone.
            return Definitions.product(pick(65536), 1 << pick(16));
        }
        return pick(65536);
    }

    private static int someNumber(int from, int below) {
        if (pick(12) == 0) {
            return WRONG_NUMBERS[pick(WRONG_NUMBERS.length)];
        }
        return from + pick(below - from);
    }

    private static boolean isPolynomial(int f) {
        return f >= 0 && f < 65536;
    }

    private static boolean isHeld(int i) {
        return i >= 0 && i < 6 && HELD[i] >= 0;
    }

    private static int[] heldWithout(int left) {
        int[] found = new int[6];
        int count = 0;
        for (int i = 0; i < 6; i++) {
            if (HELD[i] >= 0 && i != left) {
                found[count] = HELD[i];
                count++;
            }
        }
        return Arrays.copyOf(found, count);
    }

    private static void refresh() {
        ideal = Definitions.ideal(heldWithout(-1));
        basis = ideal.basis();
    }

    private static int zeros() {
        return Definitions.zeros(heldWithout(-1));
    }

    private static void makeCall(BooleanBasis x, String where) {
        int kind = pick(17);
        switch (kind) {
            case 0, 1 -> add(x, where);
            case 2 -> remove(x, where);
            case 3 -> generators(x, where);
            case 4 -> product(x, where);
            case 5 -> value(x, where);
            case 6 -> contains(x, where);
            case 7 -> rest(x, where);
            case 8 -> DUE.is(where + "basisSize()", x.basisSize(), basis.length);
            case 9, 10 -> basisAt(x, where);
            case 11 -> DUE.is(where + "bound()", x.bound(), ideal.bound());
            case 12 -> DUE.is(where + "zeros()", x.zeros(), zeros());
            case 13 -> DUE.is(where + "zeroCount()", x.zeroCount(), Integer.bitCount(zeros()));
            case 14 -> values(x, where);
            case 15 -> redundant(x, where);
            default -> relates(x, where);
        }
    }

    private static void add(BooleanBasis x, String where) {
        int f = somePolynomial();
        int want = BooleanBasis.FULL;
        for (int i = 5; i >= 0; i--) {
            if (HELD[i] < 0) {
                want = i;
            }
        }
        if (!isPolynomial(f)) {
            want = BooleanBasis.NONE;
        }
        DUE.is(where + "add(" + f + ")", x.add(f), want);
        if (want >= 0) {
            HELD[want] = f;
            refresh();
        }
    }

    private static void remove(BooleanBasis x, String where) {
        int i = someNumber(-1, 8);
        boolean want = isHeld(i);
        DUE.is(where + "remove(" + i + ")", x.remove(i), want);
        if (want) {
            HELD[i] = -1;
            refresh();
        }
    }

    private static void generators(BooleanBasis x, String where) {
        int want = 0;
        for (int i = 0; i < 6; i++) {
            if (isHeld(i)) {
                want |= 1 << i;
            }
        }
        DUE.is(where + "generators()", x.generators(), want);
    }

    private static void product(BooleanBasis x, String where) {
        int f = somePolynomial();
        int g = somePolynomial();
        int want = isPolynomial(f) && isPolynomial(g) ? Definitions.product(f, g) : BooleanBasis.NONE;
        DUE.is(where + "product(" + f + ", " + g + ")", x.product(f, g), want);
    }

    private static void value(BooleanBasis x, String where) {
        int f = somePolynomial();
        int point = someNumber(-1, 18);
        boolean right = isPolynomial(f) && point >= 0 && point < 16;
        int want = right ? Definitions.value(f, point) : BooleanBasis.NONE;
        DUE.is(where + "value(" + f + ", " + point + ")", x.value(f, point), want);
    }

    private static void contains(BooleanBasis x, String where) {
        int f = somePolynomial();
        boolean want = isPolynomial(f) && ideal.contains(f);
        DUE.is(where + "contains(" + f + ")", x.contains(f), want);
    }

    private static void rest(BooleanBasis x, String where) {
        int f = somePolynomial();
        int want = isPolynomial(f) ? ideal.rest(f) : BooleanBasis.NONE;
        DUE.is(where + "rest(" + f + ")", x.rest(f), want);
    }

    private static void basisAt(BooleanBasis x, String where) {
        int i = someNumber(-1, 9);
        int want = i >= 0 && i < basis.length ? basis[i] : BooleanBasis.NONE;
        DUE.is(where + "basisAt(" + i + ")", x.basisAt(i), want);
    }

    private static void values(BooleanBasis x, String where) {
        int i = someNumber(-1, 6);
        int want = i >= 0 && i < 4 ? Definitions.values(zeros(), i) : 0;
        DUE.is(where + "values(" + i + ")", x.values(i), want);
    }

    private static void redundant(BooleanBasis x, String where) {
        int i = someNumber(-1, 8);
        boolean want = isHeld(i) && Definitions.ideal(heldWithout(i)).contains(HELD[i]);
        DUE.is(where + "redundant(" + i + ")", x.redundant(i), want);
    }

    private static void relates(BooleanBasis x, String where) {
        int vars = someNumber(-1, 18);
        boolean want = vars >= 0 && vars < 16 && ideal.relates(vars);
        DUE.is(where + "relates(" + vars + ")", x.relates(vars), want);
    }
}
