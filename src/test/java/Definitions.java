/**
 * The terms of the document, worked out the slow way from their own words and
 * not from the zeros, so that the program is held against something other than
 * its own idea.
 */
final class Definitions {
    private Definitions() {
    }

    static boolean isSubset(int part, int whole) {
        return (part & whole) == part;
    }

    static boolean has(int set, int member) {
        return (set >> member & 1) == 1;
    }

    static int value(int f, int point) {
        int sum = 0;
        for (int m = 0; m < 16; m++) {
            if (has(f, m) && isSubset(m, point)) {
                sum++;
            }
        }
        return sum % 2;
    }

    /** Multiplies out: a variable times itself is the variable. */
    static int product(int f, int g) {
        int sum = 0;
        for (int m = 0; m < 16; m++) {
            for (int n = 0; n < 16; n++) {
                if (has(f, m) && has(g, n)) {
                    sum ^= 1 << (m | n);
                }
            }
        }
        return sum;
    }

    static int head(int f) {
        int head = -1;
        for (int m = 0; m < 16; m++) {
            if (has(f, m)) {
                head = m;
            }
        }
        return head;
    }

    /** All sums of products of the generators with polynomials. */
    static Ideal ideal(int... generators) {
        Ideal ideal = new Ideal();
        for (int g : generators) {
            for (int m = 0; m < 16; m++) {
                ideal.addWithSums(product(g, 1 << m));
            }
        }
        ideal.finish();
        return ideal;
    }

    static int zeros(int... generators) {
        int zeros = 0;
        for (int p = 0; p < 16; p++) {
            boolean zero = true;
            for (int g : generators) {
                zero = zero && value(g, p) == 0;
            }
            if (zero) {
                zeros |= 1 << p;
            }
        }
        return zeros;
    }

    static int values(int zeros, int variable) {
        int values = 0;
        for (int p = 0; p < 16; p++) {
            if (has(zeros, p)) {
                values |= 1 << (p >> variable & 1);
            }
        }
        return values;
    }

    /** The members are kept in a list, each of them once. */
    static final class Ideal {
        private final int[] members = new int[65536];
        private final boolean[] isMember = new boolean[65536];
        private int count = 1;
        private int bound = 0;

        Ideal() {
            isMember[0] = true;
        }

        private void addWithSums(int f) {
            if (isMember[f]) {
                return;
            }
            for (int k = 0; k < count; k++) {
                members[count + k] = members[k] ^ f;
                isMember[members[k] ^ f] = true;
            }
            count *= 2;
        }

        private void finish() {
            for (int k = 1; k < count; k++) {
                bound |= 1 << head(members[k]);
            }
        }

        boolean contains(int f) {
            return isMember[f];
        }

        int bound() {
            return bound;
        }

        int rest(int f) {
            int found = -1;
            for (int k = 0; k < count; k++) {
                int candidate = f ^ members[k];
                if ((candidate & bound) == 0) {
                    if (found != -1) {
                        throw new IllegalStateException("two rests of " + f);
                    }
                    found = candidate;
                }
            }
            return found;
        }

        /** The rest of every polynomial at once. */
        int[] rests() {
            int[] rests = new int[65536];
            java.util.Arrays.fill(rests, -1);
            for (int f = 0; f < 65536; f++) {
                if ((f & bound) == 0) {
                    setAsRest(f, rests);
                }
            }
            return rests;
        }

        private void setAsRest(int f, int[] rests) {
            for (int k = 0; k < count; k++) {
                if (rests[f ^ members[k]] != -1) {
                    throw new IllegalStateException("two rests of " + (f ^ members[k]));
                }
                rests[f ^ members[k]] = f;
            }
        }

        boolean relates(int vars) {
            int allowed = 0;
            for (int m = 0; m < 16; m++) {
                if (isSubset(m, vars)) {
                    allowed |= 1 << m;
                }
            }
            for (int k = 1; k < count; k++) {
                if (isSubset(members[k], allowed)) {
                    return true;
                }
            }
            return false;
        }

        /** The basis, the least head first. */
        int[] basis() {
            int[] basis = new int[16];
            int size = 0;
            for (int m = 0; m < 16; m++) {
                if (has(bound, m) && isLeast(m)) {
                    basis[size] = 1 << m ^ rest(1 << m);
                    size++;
                }
            }
            return java.util.Arrays.copyOf(basis, size);
        }

        private boolean isLeast(int m) {
            for (int n = 0; n < 16; n++) {
                if (n != m && has(bound, n) && isSubset(n, m)) {
                    return false;
                }
            }
            return true;
        }
    }
}
