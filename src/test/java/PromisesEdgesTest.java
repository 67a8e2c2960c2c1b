import java.util.List;

/**
 * One test for each sentence of the promises that names a bound, nothing or
 * everything: the last number inside and the first one outside, no generator
 * and six, 0 alone and all polynomials. RefusedCallsTest looks at what stands
 * behind a refused call. The answers are written by hand.
 */
public final class PromisesEdgesTest {
    private static final int NONE = -1;
    private static final int FULL = -2;
    private static final int LEAST = Integer.MIN_VALUE;
    private static final int GREATEST = Integer.MAX_VALUE;
    // Variable 0 is 1, variable 1 is 0, variables 2 and 3 are alike.
    private static final int[] SOME = {3, 4, 272};
    private static final int[] ALL_OF_SIX = {65535, 32768, 3, 5, 17, 257};
    private static final int[] PAIRS = {8, 32, 64, 512, 1024, 4096};
    private static final int[] ZEROES = {0, 0, 0, 0, 0, 0};
    private static final Sentences SENTENCES = new Sentences();

    public static void main(String[] args) {
        SENTENCES.test("1: No generators", PromisesEdgesTest::newObject);
        SENTENCES.test("2: the least number that none has", PromisesEdgesTest::leastNumber);
        SENTENCES.test("2: NONE when f is not 0 .. 65535", PromisesEdgesTest::addAtTheEnds);
        SENTENCES.test("2: FULL when there are six", PromisesEdgesTest::addToFiveAndSix);
        SENTENCES.test("3: Takes generator i away and answers true", PromisesEdgesTest::removeEach);
        SENTENCES.test("3: false, changing nothing, when there is none", PromisesEdgesTest::removeOfNone);
        SENTENCES.test("4: bit i for generator i", PromisesEdgesTest::generatorsOfEverySet);
        SENTENCES.test("5: NONE when f or g is not 0 .. 65535", PromisesEdgesTest::productAtTheEnds);
        SENTENCES.test("6: NONE when f is not 0 .. 65535", PromisesEdgesTest::valueAtTheEnds);
        SENTENCES.test("6: NONE when the point is not 0 .. 15", PromisesEdgesTest::valueAtTheEndPoints);
        SENTENCES.test("7: false when f is not 0 .. 65535", PromisesEdgesTest::containsAtTheEnds);
        SENTENCES.test("8: NONE when f is not 0 .. 65535", PromisesEdgesTest::restAtTheEnds);
        SENTENCES.test("9: the number of polynomials of the basis", PromisesEdgesTest::leastAndGreatestBasis);
        SENTENCES.test("10: (0 the first)", PromisesEdgesTest::firstOfTheBasis);
        SENTENCES.test("10: NONE when there is none", PromisesEdgesTest::outsideTheBasis);
        SENTENCES.test("11: bit m for monomial m", PromisesEdgesTest::boundAtTheEnds);
        SENTENCES.test("12: bit p for point p", PromisesEdgesTest::zerosAtTheEnds);
        SENTENCES.test("13: the number of zeros", PromisesEdgesTest::leastAndGreatestZeroCount);
        SENTENCES.test("14: bit v for value v", PromisesEdgesTest::eachValue);
        SENTENCES.test("14: 0 when there are no zeros", PromisesEdgesTest::valuesWithoutZeros);
        SENTENCES.test("14: 0 when i is not 0 .. 3", PromisesEdgesTest::valuesAtTheEnds);
        SENTENCES.test("15: (of none, when it is alone)", PromisesEdgesTest::redundantAlone);
        SENTENCES.test("15: in the ideal of the others", PromisesEdgesTest::redundantAmongSix);
        SENTENCES.test("15: false when there is no generator i", PromisesEdgesTest::redundantOfNone);
        SENTENCES.test("16: other than 0", PromisesEdgesTest::relatesWithZeroAlone);
        SENTENCES.test("16: the set of variables vars (0 .. 15)", PromisesEdgesTest::relatesAtTheEnds);
        SENTENCES.test("16: false when vars is another number", PromisesEdgesTest::relatesOutside);
        SENTENCES.test("17: add: NONE is tested before FULL", PromisesEdgesTest::noneBeforeFull);
        SENTENCES.end();
    }

    private static BooleanBasis with(Due due, int... polynomials) {
        BooleanBasis x = new BooleanBasis();
        for (int i = 0; i < polynomials.length; i++) {
            due.is("add(" + polynomials[i] + ")", x.add(polynomials[i]), i);
        }
        return x;
    }

    /** No generator, 0 alone, something between, all polynomials; none, one, some and six generators. */
    private static List<int[]> manyGenerators() {
        return List.of(new int[0], new int[] {0}, ZEROES, SOME, PAIRS, new int[] {1}, ALL_OF_SIX);
    }

    private static void newObject(Due due) {
        BooleanBasis x = new BooleanBasis();
        due.is("generators()", x.generators(), 0);
        for (int i = -1; i <= 6; i++) {
            due.is("remove(" + i + ")", x.remove(i), false);
            due.is("redundant(" + i + ")", x.redundant(i), false);
        }
        due.is("add(0), the first", x.add(0), 0);
        State none = State.of("no generator");
        Supply supply = new Supply(due, "a new object: ", List.of());
        supply.ask(none.questions());
        supply.ask(none.questionsOutside());
        supply.askEveryContainsAndRest(none.everyContainsAndRest());
        // A new object is new also when another one has generators.
        with(due, ALL_OF_SIX);
        new Supply(due, "another new object: ", List.of()).ask(none.questions());
    }

    private static void leastNumber(Due due) {
        for (int set = 0; set < 63; set++) {
            BooleanBasis x = with(due, ZEROES);
            removeAllBut(due, x, set);
            for (int i = 0; i < 6; i++) {
                if ((set >> i & 1) == 0) {
                    due.is("add(2) with those missing of " + set, x.add(2), i);
                }
            }
            due.is("add(2), none is missing", x.add(2), FULL);
        }
    }

    private static void removeAllBut(Due due, BooleanBasis x, int set) {
        for (int i = 5; i >= 0; i--) {
            if ((set >> i & 1) == 0) {
                due.is("remove(" + i + ")", x.remove(i), true);
            }
        }
    }

    private static void addAtTheEnds(Due due) {
        BooleanBasis x = new BooleanBasis();
        due.is("add(-1)", x.add(-1), NONE);
        due.is("add(65536)", x.add(65536), NONE);
        due.is("add(least)", x.add(LEAST), NONE);
        due.is("add(greatest)", x.add(GREATEST), NONE);
        due.is("generators()", x.generators(), 0);
        due.is("add(0)", x.add(0), 0);
        due.is("add(65535)", x.add(65535), 1);
        due.is("add(-1)", x.add(-1), NONE);
        due.is("add(65536)", x.add(65536), NONE);
        due.is("generators()", x.generators(), 3);
        due.is("contains(65535)", x.contains(65535), true);
    }

    private static void addToFiveAndSix(Due due) {
        BooleanBasis x = with(due, 2, 4, 16, 256, 8);
        due.is("add(0) to five", x.add(0), 5);
        due.is("add(0) to six", x.add(0), FULL);
        due.is("add(65535) to six", x.add(65535), FULL);
        due.is("contains(1) as before", x.contains(1), false);
        for (int i = 0; i < 6; i++) {
            due.is("remove(" + i + ")", x.remove(i), true);
            due.is("add(0) to five", x.add(0), i);
            due.is("add(0) to six", x.add(0), FULL);
        }
        due.is("generators()", x.generators(), 63);
    }

    private static void removeEach(Due due) {
        for (int i = 0; i < 6; i++) {
            // The one taken away is the only one that is 1 somewhere.
            int[] six = {0, 0, 0, 0, 0, 0};
            six[i] = 1;
            BooleanBasis x = with(due, six);
            due.is("zeros()", x.zeros(), 0);
            due.is("remove(" + i + ")", x.remove(i), true);
            due.is("generators()", x.generators(), 63 - (1 << i));
            due.is("zeros()", x.zeros(), 65535);
            due.is("remove(" + i + ") again", x.remove(i), false);
        }
        BooleanBasis alone = with(due, 1);
        due.is("remove(0) of one alone", alone.remove(0), true);
        due.is("generators()", alone.generators(), 0);
        due.is("contains(1)", alone.contains(1), false);
    }

    private static void removeOfNone(Due due) {
        for (int[] polynomials : manyGenerators()) {
            BooleanBasis x = with(due, polynomials);
            int all = (1 << polynomials.length) - 1;
            due.is("remove(-1)", x.remove(-1), false);
            due.is("remove(6)", x.remove(6), false);
            due.is("remove(least)", x.remove(LEAST), false);
            due.is("remove(greatest)", x.remove(GREATEST), false);
            for (int i = polynomials.length; i < 6; i++) {
                due.is("remove(" + i + ")", x.remove(i), false);
            }
            due.is("generators()", x.generators(), all);
            for (int i = 0; i < polynomials.length; i++) {
                due.is("remove(" + i + ")", x.remove(i), true);
                due.is("remove(" + i + ") again", x.remove(i), false);
            }
            due.is("generators()", x.generators(), 0);
        }
    }

    private static void generatorsOfEverySet(Due due) {
        due.is("generators() of none", new BooleanBasis().generators(), 0);
        for (int set = 0; set < 64; set++) {
            BooleanBasis x = with(due, ZEROES);
            due.is("generators() of six", x.generators(), 63);
            removeAllBut(due, x, set);
            due.is("generators()", x.generators(), set);
        }
    }

    private static void productAtTheEnds(Due due) {
        for (int[] polynomials : manyGenerators()) {
            BooleanBasis x = with(due, polynomials);
            due.is("product(0, 0)", x.product(0, 0), 0);
            due.is("product(0, 65535)", x.product(0, 65535), 0);
            due.is("product(65535, 0)", x.product(65535, 0), 0);
            due.is("product(65535, 65535)", x.product(65535, 65535), 65535);
            due.is("product(65535, 1)", x.product(65535, 1), 65535);
            for (int wrong : new int[] {-1, 65536, LEAST, GREATEST}) {
                due.is("product(" + wrong + ", 0)", x.product(wrong, 0), NONE);
                due.is("product(" + wrong + ", 65535)", x.product(wrong, 65535), NONE);
                due.is("product(0, " + wrong + ")", x.product(0, wrong), NONE);
                due.is("product(65535, " + wrong + ")", x.product(65535, wrong), NONE);
                due.is("product(" + wrong + ", 65536)", x.product(wrong, 65536), NONE);
                due.is("product(-1, " + wrong + ")", x.product(-1, wrong), NONE);
            }
        }
    }

    private static void valueAtTheEnds(Due due) {
        for (int[] polynomials : manyGenerators()) {
            BooleanBasis x = with(due, polynomials);
            for (int p = 0; p < 16; p++) {
                due.is("value(0, " + p + ")", x.value(0, p), 0);
                due.is("value(65535, " + p + ")", x.value(65535, p), p == 0 ? 1 : 0);
                due.is("value(-1, " + p + ")", x.value(-1, p), NONE);
                due.is("value(65536, " + p + ")", x.value(65536, p), NONE);
                due.is("value(least, " + p + ")", x.value(LEAST, p), NONE);
                due.is("value(greatest, " + p + ")", x.value(GREATEST, p), NONE);
            }
        }
    }

    private static void valueAtTheEndPoints(Due due) {
        for (int[] polynomials : manyGenerators()) {
            BooleanBasis x = with(due, polynomials);
            due.is("value(1, 0)", x.value(1, 0), 1);
            due.is("value(65534, 0)", x.value(65534, 0), 0);
            due.is("value(32768, 15)", x.value(32768, 15), 1);
            due.is("value(32769, 15)", x.value(32769, 15), 0);
            for (int f : Edges.POLYNOMIAL) {
                due.is("value(" + f + ", -1)", x.value(f, -1), NONE);
                due.is("value(" + f + ", 16)", x.value(f, 16), NONE);
                due.is("value(" + f + ", least)", x.value(f, LEAST), NONE);
                due.is("value(" + f + ", greatest)", x.value(f, GREATEST), NONE);
            }
            due.is("value(-1, -1)", x.value(-1, -1), NONE);
            due.is("value(65536, 16)", x.value(65536, 16), NONE);
        }
    }

    private static void containsAtTheEnds(Due due) {
        for (int[] polynomials : manyGenerators()) {
            BooleanBasis x = with(due, polynomials);
            due.is("contains(0)", x.contains(0), true);
            for (int wrong : Edges.NO_POLYNOMIAL) {
                due.is("contains(" + wrong + ")", x.contains(wrong), false);
            }
        }
        due.is("contains(65535) of none", new BooleanBasis().contains(65535), false);
        due.is("contains(65535) of 0", with(due, 0).contains(65535), false);
        due.is("contains(65535) of itself", with(due, 65535).contains(65535), true);
        due.is("contains(65535) of all", with(due, 1).contains(65535), true);
        due.is("contains(65535) of all of six", with(due, ALL_OF_SIX).contains(65535), true);
    }

    private static void restAtTheEnds(Due due) {
        for (int[] polynomials : manyGenerators()) {
            BooleanBasis x = with(due, polynomials);
            due.is("rest(0)", x.rest(0), 0);
            for (int wrong : Edges.NO_POLYNOMIAL) {
                due.is("rest(" + wrong + ")", x.rest(wrong), NONE);
            }
        }
        due.is("rest(65535) of none", new BooleanBasis().rest(65535), 65535);
        due.is("rest(65535) of 0", with(due, 0).rest(65535), 65535);
        due.is("rest(65535) of itself", with(due, 65535).rest(65535), 0);
        due.is("rest(65535) of 32768", with(due, 32768).rest(65535), 32767);
        due.is("rest(65535) of all", with(due, 1).rest(65535), 0);
        due.is("rest(65535) of all of six", with(due, ALL_OF_SIX).rest(65535), 0);
    }

    private static void leastAndGreatestBasis(Due due) {
        due.is("basisSize() of none", new BooleanBasis().basisSize(), 0);
        due.is("basisSize() of 0", with(due, 0).basisSize(), 0);
        due.is("basisSize() of six times 0", with(due, ZEROES).basisSize(), 0);
        due.is("basisSize() of all", with(due, 1).basisSize(), 1);
        due.is("basisSize() of all of six", with(due, ALL_OF_SIX).basisSize(), 1);
        due.is("basisSize() of six times 32768", with(due, 32768, 32768, 32768, 32768, 32768, 32768).basisSize(), 1);
        // Of no seven monomials is none a subset of another, so six is the most.
        due.is("basisSize() of pairs", with(due, PAIRS).basisSize(), 6);
    }

    private static void firstOfTheBasis(Due due) {
        due.is("basisAt(0) of 65535", with(due, 65535).basisAt(0), 65535);
        due.is("basisAt(0) of 32768, 1", with(due, 32768, 1).basisAt(0), 1);
        BooleanBasis some = with(due, SOME);
        due.is("basisAt(0)", some.basisAt(0), 3);
        due.is("basisAt(1)", some.basisAt(1), 4);
        due.is("basisAt(2), the last", some.basisAt(2), 272);
        BooleanBasis pairs = with(due, PAIRS);
        due.is("basisAt(0) of pairs", pairs.basisAt(0), 8);
        due.is("basisAt(5) of pairs, the last", pairs.basisAt(5), 4096);
    }

    private static void outsideTheBasis(Due due) {
        int[] sizes = {0, 0, 0, 3, 6, 1, 1};
        for (int k = 0; k < sizes.length; k++) {
            BooleanBasis x = with(due, manyGenerators().get(k));
            for (int i = 0; i < sizes[k]; i++) {
                due.is("basisAt(" + i + ") is there", x.basisAt(i) != NONE, true);
            }
            for (int i = sizes[k]; i <= 33; i++) {
                due.is("basisAt(" + i + ")", x.basisAt(i), NONE);
                due.is("basisAt(" + (-1 - i) + ")", x.basisAt(-1 - i), NONE);
            }
            due.is("basisAt(-1)", x.basisAt(-1), NONE);
            due.is("basisAt(least)", x.basisAt(LEAST), NONE);
            due.is("basisAt(greatest)", x.basisAt(GREATEST), NONE);
        }
    }

    private static void boundAtTheEnds(Due due) {
        due.is("bound() of none", new BooleanBasis().bound(), 0);
        due.is("bound() of six times 0", with(due, ZEROES).bound(), 0);
        due.is("bound() of 32768", with(due, 32768).bound(), 32768);
        due.is("bound() of one zero", with(due, 2, 4, 16, 256).bound(), 65534);
        due.is("bound() of all", with(due, 1).bound(), 65535);
        due.is("bound() of all of six", with(due, ALL_OF_SIX).bound(), 65535);
    }

    private static void zerosAtTheEnds(Due due) {
        due.is("zeros() of none", new BooleanBasis().zeros(), 65535);
        due.is("zeros() of six times 0", with(due, ZEROES).zeros(), 65535);
        due.is("zeros() without point 15", with(due, 32768).zeros(), 32767);
        due.is("zeros() without point 0", with(due, 65535).zeros(), 65534);
        due.is("zeros() of point 0 alone", with(due, 2, 4, 16, 256).zeros(), 1);
        due.is("zeros() of point 15 alone", with(due, 3, 5, 17, 257).zeros(), 32768);
        due.is("zeros() of all", with(due, 1).zeros(), 0);
        due.is("zeros() of all of six", with(due, ALL_OF_SIX).zeros(), 0);
    }

    private static void leastAndGreatestZeroCount(Due due) {
        due.is("zeroCount() of none", new BooleanBasis().zeroCount(), 16);
        due.is("zeroCount() of six times 0", with(due, ZEROES).zeroCount(), 16);
        due.is("zeroCount() without point 15", with(due, 32768).zeroCount(), 15);
        due.is("zeroCount() without point 0", with(due, 65535).zeroCount(), 15);
        due.is("zeroCount() of point 0 alone", with(due, 2, 4, 16, 256).zeroCount(), 1);
        due.is("zeroCount() of point 15 alone", with(due, 3, 5, 17, 257).zeroCount(), 1);
        due.is("zeroCount() of all", with(due, 1).zeroCount(), 0);
        due.is("zeroCount() of all of six", with(due, ALL_OF_SIX).zeroCount(), 0);
    }

    private static void eachValue(Due due) {
        int[] variable = {2, 4, 16, 256};
        for (int i = 0; i < 4; i++) {
            due.is("values(" + i + ") of none", new BooleanBasis().values(i), 3);
            due.is("values(" + i + ") of six times 0", with(due, ZEROES).values(i), 3);
            due.is("values(" + i + ") when it is 0", with(due, variable[i]).values(i), 1);
            due.is("values(" + i + ") when it is 1", with(due, variable[i] + 1).values(i), 2);
            due.is("values(" + i + ") of point 0 alone", with(due, variable).values(i), 1);
            due.is("values(" + i + ") of point 15 alone", with(due, 3, 5, 17, 257).values(i), 2);
            due.is("values(" + i + ") without point 0", with(due, 65535).values(i), 3);
            due.is("values(" + i + ") without point 15", with(due, 32768).values(i), 3);
        }
    }

    private static void valuesWithoutZeros(Due due) {
        for (int i = 0; i < 4; i++) {
            due.is("values(" + i + ") of 1", with(due, 1).values(i), 0);
            due.is("values(" + i + ") of 2, 3", with(due, 2, 3).values(i), 0);
            due.is("values(" + i + ") of six", with(due, ALL_OF_SIX).values(i), 0);
            BooleanBasis x = with(due, 1);
            due.is("remove(0)", x.remove(0), true);
            due.is("values(" + i + "), zeros again", x.values(i), 3);
        }
    }

    private static void valuesAtTheEnds(Due due) {
        for (int[] polynomials : manyGenerators()) {
            BooleanBasis x = with(due, polynomials);
            for (int wrong : Edges.NO_VARIABLE) {
                due.is("values(" + wrong + ")", x.values(wrong), 0);
            }
        }
        BooleanBasis some = with(due, SOME);
        due.is("values(0)", some.values(0), 2);
        due.is("values(1)", some.values(1), 1);
        due.is("values(2)", some.values(2), 3);
        due.is("values(3)", some.values(3), 3);
    }

    private static void redundantAlone(Due due) {
        due.is("redundant(0), 0 alone", with(due, 0).redundant(0), true);
        for (int f = 1; f < 65536; f++) {
            due.is("redundant(0), one alone", with(due, f).redundant(0), false);
        }
        // Alone under each number, with what was taken away behind it.
        for (int i = 0; i < 6; i++) {
            BooleanBasis zero = with(due, ZEROES);
            removeAllBut(due, zero, 1 << i);
            due.is("redundant(" + i + "), 0 alone", zero.redundant(i), true);
            BooleanBasis two = with(due, 2, 2, 2, 2, 2, 2);
            due.is("redundant(" + i + "), six times 2", two.redundant(i), true);
            removeAllBut(due, two, 1 << i);
            due.is("redundant(" + i + "), 2 alone", two.redundant(i), false);
        }
    }

    private static void redundantAmongSix(Due due) {
        BooleanBasis pairs = with(due, PAIRS);
        BooleanBasis zeroes = with(due, ZEROES);
        BooleanBasis ones = with(due, 1, 1, 1, 1, 1, 1);
        for (int i = 0; i < 6; i++) {
            due.is("redundant(" + i + ") of pairs", pairs.redundant(i), false);
            due.is("redundant(" + i + ") of six times 0", zeroes.redundant(i), true);
            due.is("redundant(" + i + ") of six times 1", ones.redundant(i), true);
            int[] six = {32768, 32768, 32768, 32768, 32768, 32768};
            six[i] = 1;
            due.is("redundant(" + i + "), 1 beside 32768", with(due, six).redundant(i), false);
            int other = (i + 1) % 6;
            due.is("redundant(" + other + "), 32768 beside 1", with(due, six).redundant(other), true);
        }
    }

    private static void redundantOfNone(Due due) {
        for (int[] polynomials : manyGenerators()) {
            BooleanBasis x = with(due, polynomials);
            for (int wrong : Edges.NO_GENERATOR) {
                due.is("redundant(" + wrong + ")", x.redundant(wrong), false);
            }
            for (int i = polynomials.length; i < 6; i++) {
                due.is("redundant(" + i + ")", x.redundant(i), false);
            }
        }
        // What had the number before is not looked at, though it would be redundant.
        for (int i = 0; i < 6; i++) {
            BooleanBasis x = with(due, ZEROES);
            due.is("remove(" + i + ")", x.remove(i), true);
            due.is("redundant(" + i + "), taken away", x.redundant(i), false);
        }
    }

    private static void relatesWithZeroAlone(Due due) {
        for (int vars = 0; vars < 16; vars++) {
            due.is("relates(" + vars + ") of none", new BooleanBasis().relates(vars), false);
            due.is("relates(" + vars + ") of six times 0", with(due, ZEROES).relates(vars), false);
        }
    }

    private static void relatesAtTheEnds(Due due) {
        for (int vars = 0; vars < 16; vars++) {
            due.is("relates(" + vars + ") of all", with(due, 1).relates(vars), true);
            due.is("relates(" + vars + ") of all of six", with(due, ALL_OF_SIX).relates(vars), true);
            due.is("relates(" + vars + ") of one zero", with(due, 2, 4, 16, 256).relates(vars), vars != 0);
            due.is("relates(" + vars + ") of 32768", with(due, 32768).relates(vars), vars == 15);
            due.is("relates(" + vars + ") of 65535", with(due, 65535).relates(vars), vars == 15);
        }
    }

    private static void relatesOutside(Due due) {
        for (int[] polynomials : manyGenerators()) {
            BooleanBasis x = with(due, polynomials);
            for (int wrong : Edges.NO_POINT) {
                due.is("relates(" + wrong + ")", x.relates(wrong), false);
            }
        }
    }

    private static void noneBeforeFull(Due due) {
        BooleanBasis x = with(due, 2, 4, 16, 256, 8);
        due.is("add(65536) to five", x.add(65536), NONE);
        due.is("add(65535) to five", x.add(65535), 5);
        for (int wrong : Edges.NO_POLYNOMIAL) {
            due.is("add(" + wrong + ") to six", x.add(wrong), NONE);
        }
        for (int right : Edges.POLYNOMIAL) {
            due.is("add(" + right + ") to six", x.add(right), FULL);
        }
    }
}
