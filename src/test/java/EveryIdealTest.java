/**
 * Every ideal there is has a single generator, so one object for each of the
 * 65536 polynomials goes through them all.
 */
public final class EveryIdealTest {
    private static final Due DUE = new Due();

    public static void main(String[] args) {
        for (int f = 0; f < 65536; f++) {
            checkIdealOf(f);
        }
        DUE.end();
    }

    private static void checkIdealOf(int f) {
        BooleanBasis x = new BooleanBasis();
        String after = "add(" + f + "), ";
        DUE.is("add(" + f + ")", x.add(f), 0);
        Definitions.Ideal ideal = Definitions.ideal(f);
        checkBasis(x, ideal, after);
        checkZeros(x, Definitions.zeros(f), after);
        checkMembers(x, ideal, f, after);
        for (int vars = 0; vars < 16; vars++) {
            DUE.is(after + "relates(" + vars + ")", x.relates(vars), ideal.relates(vars));
        }
        DUE.is(after + "redundant(0)", x.redundant(0), f == 0);
    }

    private static void checkBasis(BooleanBasis x, Definitions.Ideal ideal, String after) {
        int[] basis = ideal.basis();
        DUE.is(after + "bound()", x.bound(), ideal.bound());
        DUE.is(after + "basisSize()", x.basisSize(), basis.length);
        for (int i = 0; i < basis.length; i++) {
            DUE.is(after + "basisAt(" + i + ")", x.basisAt(i), basis[i]);
        }
        DUE.is(after + "basisAt(" + basis.length + ")", x.basisAt(basis.length), BooleanBasis.NONE);
    }

    private static void checkZeros(BooleanBasis x, int zeros, String after) {
        DUE.is(after + "zeros()", x.zeros(), zeros);
        DUE.is(after + "zeroCount()", x.zeroCount(), Integer.bitCount(zeros));
        for (int i = 0; i < 4; i++) {
            DUE.is(after + "values(" + i + ")", x.values(i), Definitions.values(zeros, i));
        }
    }

    private static void checkMembers(BooleanBasis x, Definitions.Ideal ideal, int f, String after) {
        // Another polynomial for every f, so that the 65536 objects see them all.
        int other = f * 40503 & 65535;
        DUE.is(after + "contains(" + other + ")", x.contains(other), ideal.contains(other));
        DUE.is(after + "rest(" + other + ")", x.rest(other), ideal.rest(other));
        int multiple = Definitions.product(f, other);
        DUE.is(after + "contains(" + multiple + ")", x.contains(multiple), true);
        DUE.is(after + "rest(" + multiple + ")", x.rest(multiple), 0);
        int beside = multiple ^ 1 << (f & 15);
        DUE.is(after + "contains(" + beside + ")", x.contains(beside), ideal.contains(beside));
        for (int m = 0; m < 16; m++) {
            DUE.is(after + "rest(" + (1 << m) + ")", x.rest(1 << m), ideal.rest(1 << m));
        }
    }
}
