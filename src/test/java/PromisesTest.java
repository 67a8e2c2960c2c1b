/**
 * One method for each promise, with answers worked out by hand: ordinary
 * inputs, the edges that the document names, and wrong inputs.
 *
 * Monomials used below: 1 is the number 1; 2, 4, 16, 256 are variables 0 to 3;
 * 8 is variable 0 times variable 1; 32768 is all four variables multiplied.
 */
public final class PromisesTest {
    private static final int NONE = -1;
    private static final int FULL = -2;
    private static final int[] NO_POLYNOMIALS = {-1, -2, 65536, 65537, Integer.MIN_VALUE, Integer.MAX_VALUE};
    private static final int[] NO_GENERATORS = {-1, 6, 7, 32, -32, 64, Integer.MIN_VALUE, Integer.MAX_VALUE};
    private static final int[] NO_POINTS = {-1, 16, 17, 32, -16, Integer.MIN_VALUE, Integer.MAX_VALUE};

    private static final Due DUE = new Due();

    public static void main(String[] args) {
        DUE.is("NONE", BooleanBasis.NONE, NONE);
        DUE.is("FULL", BooleanBasis.FULL, FULL);
        promise1();
        promise2();
        promise3();
        promise4();
        promise5();
        promise6();
        promise7();
        promise8();
        promise9();
        promise10();
        promise11();
        promise12();
        promise13();
        promise14();
        promise15();
        promise16();
        promise17();
        objectsStandApart();
        DUE.end();
    }

    private static BooleanBasis with(int... polynomials) {
        BooleanBasis x = new BooleanBasis();
        for (int i = 0; i < polynomials.length; i++) {
            DUE.is("add(" + polynomials[i] + ")", x.add(polynomials[i]), i);
        }
        return x;
    }

    private static void promise1() {
        BooleanBasis x = new BooleanBasis();
        DUE.is("1: generators()", x.generators(), 0);
        DUE.is("1: zeros()", x.zeros(), 65535);
        DUE.is("1: zeroCount()", x.zeroCount(), 16);
        DUE.is("1: basisSize()", x.basisSize(), 0);
        DUE.is("1: basisAt(0)", x.basisAt(0), NONE);
        DUE.is("1: bound()", x.bound(), 0);
        DUE.is("1: contains(0)", x.contains(0), true);
        DUE.is("1: rest(65535)", x.rest(65535), 65535);
        for (int i = 0; i < 6; i++) {
            DUE.is("1: remove(" + i + ")", x.remove(i), false);
            DUE.is("1: redundant(" + i + ")", x.redundant(i), false);
        }
        for (int f = 1; f < 65536; f *= 2) {
            DUE.is("1: contains(" + f + ")", x.contains(f), false);
        }
    }

    private static void promise2() {
        BooleanBasis x = with(0, 65535, 2, 2, 2, 0);
        DUE.is("2: add(4) as the seventh", x.add(4), FULL);
        DUE.is("2: add(0) as the seventh", x.add(0), FULL);
        DUE.is("2: remove(4)", x.remove(4), true);
        DUE.is("2: remove(1)", x.remove(1), true);
        DUE.is("2: remove(3)", x.remove(3), true);
        DUE.is("2: add(0), least number", x.add(0), 1);
        DUE.is("2: add(0), next number", x.add(0), 3);
        DUE.is("2: add(0), last number", x.add(0), 4);
        DUE.is("2: add(0), none left", x.add(0), FULL);
        DUE.is("2: remove(0)", x.remove(0), true);
        DUE.is("2: add(16)", x.add(16), 0);
        BooleanBasis y = new BooleanBasis();
        for (int f : NO_POLYNOMIALS) {
            DUE.is("2: add(" + f + ")", y.add(f), NONE);
        }
        DUE.is("2: generators() after wrong ones", y.generators(), 0);
        DUE.is("2: add(2)", y.add(2), 0);
        DUE.is("2: contains(2)", y.contains(2), true);
        // The new polynomial counts, not the one that had the number before.
        DUE.is("2: remove(0)", y.remove(0), true);
        DUE.is("2: add(4)", y.add(4), 0);
        DUE.is("2: contains(2) no longer", y.contains(2), false);
        DUE.is("2: contains(4)", y.contains(4), true);
    }

    private static void promise3() {
        BooleanBasis x = with(2, 4, 2);
        for (int i : NO_GENERATORS) {
            DUE.is("3: remove(" + i + ")", x.remove(i), false);
        }
        for (int i = 3; i < 6; i++) {
            DUE.is("3: remove(" + i + ")", x.remove(i), false);
        }
        DUE.is("3: generators()", x.generators(), 7);
        DUE.is("3: zeros()", x.zeros(), 0x1111);
        DUE.is("3: remove(0)", x.remove(0), true);
        DUE.is("3: contains(2), held twice", x.contains(2), true);
        DUE.is("3: remove(0) again", x.remove(0), false);
        DUE.is("3: remove(2)", x.remove(2), true);
        DUE.is("3: contains(2)", x.contains(2), false);
        DUE.is("3: zeros()", x.zeros(), 0x3333);
        DUE.is("3: basisAt(0)", x.basisAt(0), 4);
        DUE.is("3: remove(1)", x.remove(1), true);
        DUE.is("3: zeros()", x.zeros(), 65535);
        DUE.is("3: basisSize()", x.basisSize(), 0);
        DUE.is("3: rest(4)", x.rest(4), 4);
    }

    private static void promise4() {
        BooleanBasis x = new BooleanBasis();
        for (int i = 0; i < 6; i++) {
            DUE.is("4: generators()", x.generators(), (1 << i) - 1);
            DUE.is("4: add(0)", x.add(0), i);
        }
        DUE.is("4: generators() of six", x.generators(), 63);
        DUE.is("4: remove(2)", x.remove(2), true);
        DUE.is("4: generators()", x.generators(), 59);
        DUE.is("4: remove(5)", x.remove(5), true);
        DUE.is("4: generators()", x.generators(), 27);
    }

    private static void promise5() {
        BooleanBasis x = new BooleanBasis();
        DUE.is("5: product(0, 65535)", x.product(0, 65535), 0);
        DUE.is("5: product(1, 65535)", x.product(1, 65535), 65535);
        DUE.is("5: product(2, 2)", x.product(2, 2), 2);
        DUE.is("5: product(2, 4)", x.product(2, 4), 8);
        DUE.is("5: product(2, 3)", x.product(2, 3), 0);
        DUE.is("5: product(3, 5)", x.product(3, 5), 15);
        DUE.is("5: product(6, 18)", x.product(6, 18), 2 ^ 8 ^ 32 ^ 64);
        DUE.is("5: product(8, 4096)", x.product(8, 4096), 32768);
        DUE.is("5: product(32768, 65535)", x.product(32768, 65535), 0);
        DUE.is("5: product(32768, 1)", x.product(32768, 1), 32768);
        for (int f : NO_POLYNOMIALS) {
            DUE.is("5: product(" + f + ", 1)", x.product(f, 1), NONE);
            DUE.is("5: product(1, " + f + ")", x.product(1, f), NONE);
            DUE.is("5: product(0, " + f + ")", x.product(0, f), NONE);
            DUE.is("5: product(" + f + ", " + f + ")", x.product(f, f), NONE);
        }
        for (int m = 0; m < 16; m++) {
            for (int n = 0; n < 16; n++) {
                String call = "5: product(" + (1 << m) + ", " + (1 << n) + ")";
                DUE.is(call, x.product(1 << m, 1 << n), 1 << (m | n));
            }
        }
        // The generators have no part in it.
        DUE.is("5: product(6, 6) beside 1", with(1).product(6, 6), 6);
    }

    private static void promise6() {
        BooleanBasis x = new BooleanBasis();
        for (int m = 0; m < 16; m++) {
            for (int p = 0; p < 16; p++) {
                boolean allOne = (m & ~p) == 0;
                DUE.is("6: value(" + (1 << m) + ", " + p + ")", x.value(1 << m, p), allOne ? 1 : 0);
            }
        }
        BooleanBasis y = with(1);
        DUE.is("6: value(0, 15)", y.value(0, 15), 0);
        DUE.is("6: value(1, 0)", y.value(1, 0), 1);
        DUE.is("6: value(6, 1)", y.value(6, 1), 1);
        DUE.is("6: value(6, 3)", y.value(6, 3), 0);
        DUE.is("6: value(65535, 0)", y.value(65535, 0), 1);
        DUE.is("6: value(65535, 8)", y.value(65535, 8), 0);
        DUE.is("6: value(65535, 15)", y.value(65535, 15), 0);
        for (int f : NO_POLYNOMIALS) {
            DUE.is("6: value(" + f + ", 0)", y.value(f, 0), NONE);
        }
        for (int p : NO_POINTS) {
            DUE.is("6: value(1, " + p + ")", y.value(1, p), NONE);
            DUE.is("6: value(-1, " + p + ")", y.value(-1, p), NONE);
        }
    }

    private static void promise7() {
        // Variable 0 and the sum of variables 1 and 2.
        BooleanBasis x = with(2, 20);
        DUE.is("7: contains(0)", x.contains(0), true);
        DUE.is("7: contains(2)", x.contains(2), true);
        DUE.is("7: contains(20)", x.contains(20), true);
        DUE.is("7: contains(22)", x.contains(22), true);
        DUE.is("7: contains(8)", x.contains(8), true);
        DUE.is("7: contains(68)", x.contains(68), true);
        DUE.is("7: contains(4)", x.contains(4), false);
        DUE.is("7: contains(64)", x.contains(64), false);
        DUE.is("7: contains(1)", x.contains(1), false);
        DUE.is("7: contains(3)", x.contains(3), false);
        DUE.is("7: contains(256)", x.contains(256), false);
        DUE.is("7: contains(43690)", x.contains(43690), true);
        BooleanBasis all = with(3, 2);
        DUE.is("7: contains(1) of all", all.contains(1), true);
        DUE.is("7: contains(65535) of all", all.contains(65535), true);
        for (int f : NO_POLYNOMIALS) {
            DUE.is("7: contains(" + f + ")", x.contains(f), false);
            DUE.is("7: contains(" + f + ") of all", all.contains(f), false);
            DUE.is("7: contains(" + f + ") of none", new BooleanBasis().contains(f), false);
        }
    }

    private static void promise8() {
        BooleanBasis x = with(2, 20);
        DUE.is("8: rest(0)", x.rest(0), 0);
        DUE.is("8: rest(1)", x.rest(1), 1);
        DUE.is("8: rest(2)", x.rest(2), 0);
        DUE.is("8: rest(4)", x.rest(4), 4);
        DUE.is("8: rest(16)", x.rest(16), 4);
        DUE.is("8: rest(64)", x.rest(64), 4);
        DUE.is("8: rest(4096)", x.rest(4096), 1024);
        DUE.is("8: rest(16384)", x.rest(16384), 1024);
        DUE.is("8: rest(32768)", x.rest(32768), 0);
        DUE.is("8: rest(81)", x.rest(81), 1);
        DUE.is("8: rest(65535)", x.rest(65535), 1 ^ 4 ^ 256 ^ 1024);
        // A rest below the head but with a bound monomial is no rest.
        BooleanBasis y = with(5, 278);
        DUE.is("8: rest(256)", y.rest(256), 1 ^ 2 ^ 16);
        DUE.is("8: rest(1) of all", with(1).rest(1), 0);
        for (int f : NO_POLYNOMIALS) {
            DUE.is("8: rest(" + f + ")", x.rest(f), NONE);
            DUE.is("8: rest(" + f + ") of none", new BooleanBasis().rest(f), NONE);
            DUE.is("8: rest(" + f + ") of all", with(1).rest(f), NONE);
        }
    }

    private static void promise9() {
        DUE.is("9: basisSize() of 0", with(0).basisSize(), 0);
        DUE.is("9: basisSize() of 1", with(1).basisSize(), 1);
        DUE.is("9: basisSize() of all variables", with(2, 4, 16, 256).basisSize(), 4);
        DUE.is("9: basisSize() of one twice", with(2, 2).basisSize(), 1);
        DUE.is("9: basisSize() of 2, 8", with(2, 8).basisSize(), 1);
        // All six products of two variables.
        DUE.is("9: basisSize() of pairs", with(8, 32, 64, 512, 1024, 4096).basisSize(), 6);
        DUE.is("9: basisSize() of 32769", with(32769).basisSize(), 4);
        DUE.is("9: basisSize() of 32768", with(32768).basisSize(), 1);
    }

    private static void promise10() {
        BooleanBasis x = with(4096, 1024, 512, 64, 32, 8);
        int[] pairs = {8, 32, 64, 512, 1024, 4096};
        for (int i = 0; i < 6; i++) {
            DUE.is("10: basisAt(" + i + ") of pairs", x.basisAt(i), pairs[i]);
        }
        int[] none = {-1, -2, 6, 7, 15, 16, Integer.MIN_VALUE, Integer.MAX_VALUE};
        for (int i : none) {
            DUE.is("10: basisAt(" + i + ") of pairs", x.basisAt(i), NONE);
        }
        BooleanBasis y = with(278, 5);
        DUE.is("10: basisAt(0)", y.basisAt(0), 5);
        DUE.is("10: basisAt(1)", y.basisAt(1), 256 ^ 16 ^ 2 ^ 1);
        DUE.is("10: basisAt(2)", y.basisAt(2), NONE);
        BooleanBasis all = with(65535, 32768, 3, 5, 17, 257);
        DUE.is("10: basisAt(0) without zeros", all.basisAt(0), 1);
        DUE.is("10: basisAt(1) without zeros", all.basisAt(1), NONE);
        DUE.is("10: basisAt(0) of 0", with(0).basisAt(0), NONE);
    }

    private static void promise11() {
        DUE.is("11: bound() of 0", with(0).bound(), 0);
        DUE.is("11: bound() of 1", with(1).bound(), 65535);
        DUE.is("11: bound() of 2", with(2).bound(), 0xaaaa);
        DUE.is("11: bound() of 6", with(6).bound(), 0xcccc);
        DUE.is("11: bound() of 256", with(256).bound(), 0xff00);
        DUE.is("11: bound() of 32768", with(32768).bound(), 32768);
        DUE.is("11: bound() of 32769", with(32769).bound(), 65534);
        DUE.is("11: bound() of 65535", with(65535).bound(), 32768);
    }

    private static void promise12() {
        DUE.is("12: zeros() of 0", with(0).zeros(), 65535);
        DUE.is("12: zeros() of 1", with(1).zeros(), 0);
        DUE.is("12: zeros() of 2", with(2).zeros(), 0x5555);
        DUE.is("12: zeros() of 256", with(256).zeros(), 0x00ff);
        DUE.is("12: zeros() of 2, 4", with(2, 4).zeros(), 0x1111);
        DUE.is("12: zeros() of 2, 3", with(2, 3).zeros(), 0);
        DUE.is("12: zeros() of 32769", with(32769).zeros(), 32768);
        DUE.is("12: zeros() of 65535", with(65535).zeros(), 65534);
        DUE.is("12: zeros() of six", with(0, 0, 2, 4, 16, 256).zeros(), 1);
    }

    private static void promise13() {
        DUE.is("13: zeroCount() of 0", with(0).zeroCount(), 16);
        DUE.is("13: zeroCount() of 1", with(1).zeroCount(), 0);
        DUE.is("13: zeroCount() of 2", with(2).zeroCount(), 8);
        DUE.is("13: zeroCount() of 8", with(8).zeroCount(), 12);
        DUE.is("13: zeroCount() of 32768", with(32768).zeroCount(), 15);
        DUE.is("13: zeroCount() of 32769", with(32769).zeroCount(), 1);
        DUE.is("13: zeroCount() of pairs", with(8, 32, 64, 512, 1024, 4096).zeroCount(), 5);
    }

    private static void promise14() {
        // Variable 0 is 0, variable 3 is 1, variables 1 and 2 are alike.
        BooleanBasis x = with(2, 257, 20);
        DUE.is("14: values(0)", x.values(0), 1);
        DUE.is("14: values(1)", x.values(1), 3);
        DUE.is("14: values(2)", x.values(2), 3);
        DUE.is("14: values(3)", x.values(3), 2);
        int[] none = {-1, 4, 5, 31, 32, 33, -32, Integer.MIN_VALUE, Integer.MAX_VALUE};
        for (int i : none) {
            DUE.is("14: values(" + i + ")", x.values(i), 0);
            DUE.is("14: values(" + i + ") of none", new BooleanBasis().values(i), 0);
        }
        for (int i = 0; i < 4; i++) {
            DUE.is("14: values(" + i + ") without zeros", with(1).values(i), 0);
            DUE.is("14: values(" + i + ") of none", new BooleanBasis().values(i), 3);
        }
    }

    private static void promise15() {
        DUE.is("15: redundant(0), alone", with(2).redundant(0), false);
        DUE.is("15: redundant(0), 0 alone", with(0).redundant(0), true);
        BooleanBasis x = with(2, 2, 8, 4);
        DUE.is("15: redundant(0), held twice", x.redundant(0), true);
        DUE.is("15: redundant(1), held twice", x.redundant(1), true);
        DUE.is("15: redundant(2), a multiple", x.redundant(2), true);
        DUE.is("15: redundant(3)", x.redundant(3), false);
        DUE.is("15: redundant(4), not there", x.redundant(4), false);
        DUE.is("15: zeros() as before", x.zeros(), 0x1111);
        DUE.is("15: generators() as before", x.generators(), 15);
        DUE.is("15: remove(0)", x.remove(0), true);
        DUE.is("15: redundant(0), taken away", x.redundant(0), false);
        DUE.is("15: redundant(1), no longer twice", x.redundant(1), false);
        for (int i : NO_GENERATORS) {
            DUE.is("15: redundant(" + i + ")", x.redundant(i), false);
        }
        BooleanBasis sums = with(6, 20, 18);
        for (int i = 0; i < 3; i++) {
            DUE.is("15: redundant(" + i + "), the sum of the others", sums.redundant(i), true);
        }
        // Generator 5 is the sum of variables 0, 1, 2, and so is each of them a sum of the rest.
        BooleanBasis six = with(2, 4, 16, 256, 32768, 22);
        for (int i = 0; i < 6; i++) {
            DUE.is("15: redundant(" + i + ") of six", six.redundant(i), i != 3);
        }
    }

    private static void promise16() {
        DUE.is("16: relates(0) of none", new BooleanBasis().relates(0), false);
        DUE.is("16: relates(15) of none", new BooleanBasis().relates(15), false);
        for (int vars = 0; vars < 16; vars++) {
            DUE.is("16: relates(" + vars + ") of 1", with(1).relates(vars), true);
            DUE.is("16: relates(" + vars + ") of 2", with(2).relates(vars), (vars & 1) != 0);
            DUE.is("16: relates(" + vars + ") of 258", with(258).relates(vars), (vars & 9) == 9);
            DUE.is("16: relates(" + vars + ") of 32768", with(32768).relates(vars), vars == 15);
            boolean twoAlike = Integer.bitCount(vars & 7) >= 2;
            DUE.is("16: relates(" + vars + ") of 6, 20", with(6, 20).relates(vars), twoAlike);
        }
        for (int vars : NO_POINTS) {
            DUE.is("16: relates(" + vars + ")", with(2).relates(vars), false);
            DUE.is("16: relates(" + vars + ") of 1", with(1).relates(vars), false);
        }
    }

    private static void promise17() {
        BooleanBasis six = with(2, 4, 16, 256, 8, 0);
        for (int f : NO_POLYNOMIALS) {
            DUE.is("17: add(" + f + ") to six", six.add(f), NONE);
        }
        DUE.is("17: add(1) to six", six.add(1), FULL);
        refusedCallsChangeNothing(2, 20, 32768);
        refusedCallsChangeNothing(2, 20, 32768, 8, 0, 20);
        refusedCallsChangeNothing();
    }

    private static void refusedCallsChangeNothing(int... polynomials) {
        int before = (1 << polynomials.length) - 1;
        for (int wrong : NO_POLYNOMIALS) {
            BooleanBasis x = with(polynomials);
            DUE.is("17: add", x.add(wrong), NONE);
            DUE.is("17: product", x.product(wrong, 3), NONE);
            DUE.is("17: product", x.product(3, wrong), NONE);
            DUE.is("17: value", x.value(wrong, 3), NONE);
            DUE.is("17: value", x.value(3, wrong), NONE);
            DUE.is("17: contains", x.contains(wrong), false);
            DUE.is("17: rest", x.rest(wrong), NONE);
            DUE.is("17: remove", x.remove(wrong), false);
            DUE.is("17: basisAt", x.basisAt(wrong), NONE);
            DUE.is("17: values", x.values(wrong), 0);
            DUE.is("17: redundant", x.redundant(wrong), false);
            DUE.is("17: relates", x.relates(wrong), false);
            if (polynomials.length == 6) {
                DUE.is("17: add(1)", x.add(1), FULL);
            }
            for (int i = polynomials.length; i < 6; i++) {
                DUE.is("17: remove(" + i + ")", x.remove(i), false);
            }
            DUE.is("17: generators()", x.generators(), before);
            sameAnswers(x, with(polynomials));
            // What a refused call left behind could show only now.
            for (int i = 0; i < polynomials.length; i++) {
                DUE.is("17: remove(" + i + ")", x.remove(i), true);
            }
            sameAnswers(x, new BooleanBasis());
        }
    }

    private static void sameAnswers(BooleanBasis x, BooleanBasis y) {
        DUE.is("17: zeros()", x.zeros(), y.zeros());
        DUE.is("17: bound()", x.bound(), y.bound());
        DUE.is("17: basisSize()", x.basisSize(), y.basisSize());
        for (int i = 0; i < 6; i++) {
            DUE.is("17: basisAt(" + i + ")", x.basisAt(i), y.basisAt(i));
            DUE.is("17: redundant(" + i + ")", x.redundant(i), y.redundant(i));
        }
        for (int m = 0; m < 16; m++) {
            DUE.is("17: rest(" + (1 << m) + ")", x.rest(1 << m), y.rest(1 << m));
        }
    }

    private static void objectsStandApart() {
        BooleanBasis x = with(2);
        BooleanBasis y = with(4, 16);
        DUE.is("zeros() of the first", x.zeros(), 0x5555);
        DUE.is("zeros() of the second", y.zeros(), 0x0303);
        DUE.is("generators() of the first", x.generators(), 1);
        DUE.is("basisAt(0) of the first", x.basisAt(0), 2);
    }
}
