/**
 * Numbers at the document's bounds. Outside there are the first ones at both
 * ends, the least and the greatest int, and such as a mask or a shift that
 * looks at the last bits alone would bring back inside.
 */
final class Edges {
    private static final int LEAST = Integer.MIN_VALUE;
    private static final int GREATEST = Integer.MAX_VALUE;

    static final int[] POLYNOMIAL = {0, 1, 2, 32767, 32768, 65534, 65535};
    static final int[] NO_POLYNOMIAL = {
        -1, -2, -65535, -65536, 65536, 65537, 131071, 131072, 1 << 30, LEAST, LEAST + 1, LEAST + 65535, GREATEST
    };
    /** Sets of variables have the same bounds. */
    static final int[] NO_POINT = {-1, -2, -15, -16, 16, 17, 31, 32, 65536, LEAST, LEAST + 15, GREATEST};
    static final int[] NO_GENERATOR = {-1, -2, -27, -32, 6, 7, 8, 31, 32, 37, 64, 65536, LEAST, LEAST + 5, GREATEST};
    static final int[] NO_VARIABLE = {-1, -2, -29, -32, 4, 5, 31, 32, 35, 65536, LEAST, LEAST + 3, GREATEST};
    /** No basis has more than six polynomials. */
    static final int[] NO_PLACE = {-1, -2, -32, 6, 7, 15, 16, 17, 32, 65536, LEAST, LEAST + 1, GREATEST};

    private Edges() {
    }
}
