import java.util.ArrayList;
import java.util.List;

/**
 * One test for each sentence under "What it is", "The public face" and "Terms"
 * that names a bound, nothing or everything. The answers are written by hand.
 */
public final class TermsEdgesTest {
    private static final int NONE = -1;
    private static final int FULL = -2;
    private static final int[] PAIRS = {8, 32, 64, 512, 1024, 4096};
    private static final Sentences SENTENCES = new Sentences();

    public static void main(String[] args) {
        SENTENCES.test("An object is used for at most 512 calls", TermsEdgesTest::lastOf512Calls);
        SENTENCES.test("NONE = -1, FULL = -2", TermsEdgesTest::constants);
        SENTENCES.test("There are variables 0 .. 3", TermsEdgesTest::variables);
        SENTENCES.test("A monomial .. (0 for the number 1)", TermsEdgesTest::monomialOfNoVariable);
        SENTENCES.test("A monomial is a set of variables, 0 .. 15", TermsEdgesTest::monomialOfAllVariables);
        SENTENCES.test("A polynomial is a set of monomials, 0 .. 65535", TermsEdgesTest::emptyAndFullPolynomial);
        SENTENCES.test("their sum modulo 2", TermsEdgesTest::sumsModulo2);
        SENTENCES.test("The product .. (there is exactly one)", TermsEdgesTest::exactlyOneProduct);
        SENTENCES.test("There are at most six generators, numbers 0 .. 5", TermsEdgesTest::sixGenerators);
        SENTENCES.test("The ideal .. (0 alone when there are none)", TermsEdgesTest::zeroAlone);
        SENTENCES.test("The ideal is the set of all sums of products", TermsEdgesTest::allPolynomials);
        SENTENCES.test("A zero: all generators have the value 0 there", TermsEdgesTest::zerosOfNoneAndOfSix);
        SENTENCES.test("The head of a polynomial other than 0", TermsEdgesTest::leastAndGreatestHead);
        SENTENCES.test("Bound, else free", TermsEdgesTest::noneAndAllBound);
        SENTENCES.test("The rest: exactly one, with free monomials only", TermsEdgesTest::restsWithNoneAndAllFree);
        SENTENCES.test("The basis: no other bound monomial is a subset", TermsEdgesTest::noOtherBoundSubset);
        SENTENCES.test("ordered by their heads, the least first", TermsEdgesTest::leastHeadFirst);
        SENTENCES.end();
    }

    private static BooleanBasis with(Due due, int... polynomials) {
        BooleanBasis x = new BooleanBasis();
        for (int i = 0; i < polynomials.length; i++) {
            due.is("add(" + polynomials[i] + ")", x.add(polynomials[i]), i);
        }
        return x;
    }

    private static Supply supply(Due due, State state) {
        return new Supply(due, state.name() + ": ", state.steps());
    }

    /** 20 is held as number 0; another one comes and goes. */
    private static State longRun(int changes) {
        State state = State.of("after " + changes + " changes", 20);
        for (int k = 1; k < changes; k += 2) {
            state.add(k * 257 & 65535).remove(1);
        }
        return state;
    }

    private static void lastOf512Calls(Due due) {
        State five = longRun(505).add(8).add(6).add(0).add(278).add(4096).remove(3);
        // With 511 calls before, each question is the 512th on an object of its own.
        supply(due, five).ask(five.questions());
        supply(due, five).ask(five.questionsOutside());
        supply(due, five).ask(List.of(new Call("add(3)", x -> x.add(3), 3)));
        supply(due, five).ask(List.of(Call.of("remove(5)", x -> x.remove(5), true)));
        supply(due, five).ask(List.of(Call.of("remove(3)", x -> x.remove(3), false)));
        State six = longRun(505).add(8).add(6).add(0).add(278).add(4096);
        List<Call> calls = new ArrayList<>(six.steps());
        calls.add(new Call("generators()", x -> x.generators(), 63));
        new Supply(due, "511 calls: ", calls).ask(six.questions());
        new Supply(due, "511 calls: ", calls).ask(List.of(new Call("add(3)", x -> x.add(3), FULL)));
        new Supply(due, "511 calls: ", calls).ask(List.of(new Call("add(65536)", x -> x.add(65536), NONE)));
    }

    private static void constants(Due due) {
        due.is("NONE", BooleanBasis.NONE, -1);
        due.is("FULL", BooleanBasis.FULL, -2);
    }

    private static void variables(Due due) {
        BooleanBasis x = new BooleanBasis();
        for (int p = 0; p < 16; p++) {
            due.is("value(2, " + p + "), variable 0", x.value(2, p), p & 1);
            due.is("value(256, " + p + "), variable 3", x.value(256, p), p >> 3);
        }
        // Variable 0 is 1 and variable 3 is 0.
        BooleanBasis y = with(due, 3, 256);
        due.is("values(-1)", y.values(-1), 0);
        due.is("values(0)", y.values(0), 2);
        due.is("values(3)", y.values(3), 1);
        due.is("values(4)", y.values(4), 0);
    }

    private static void monomialOfNoVariable(Due due) {
        Supply none = supply(due, State.of("no generator"));
        for (int p = 0; p < 16; p++) {
            due.is("value(1, " + p + ")", none.next().value(1, p), 1);
        }
        for (int f = 0; f < 65536; f++) {
            due.is("product with 1", none.next().product(1, f), f);
            due.is("product with 1", none.next().product(f, 1), f);
        }
    }

    private static void monomialOfAllVariables(Due due) {
        BooleanBasis x = new BooleanBasis();
        for (int p = 0; p < 16; p++) {
            due.is("value(32768, " + p + ")", x.value(32768, p), p == 15 ? 1 : 0);
        }
        for (int m = 0; m < 16; m++) {
            due.is("product(32768, " + (1 << m) + ")", x.product(32768, 1 << m), 32768);
        }
        due.is("product(128, 256), three variables and the fourth", x.product(128, 256), 32768);
        due.is("add(32768)", x.add(32768), 0);
        due.is("basisAt(0)", x.basisAt(0), 32768);
        due.is("bound()", x.bound(), 32768);
    }

    private static void emptyAndFullPolynomial(Due due) {
        BooleanBasis x = new BooleanBasis();
        for (int p = 0; p < 16; p++) {
            due.is("value(0, " + p + ")", x.value(0, p), 0);
            due.is("value(65535, " + p + ")", x.value(65535, p), p == 0 ? 1 : 0);
        }
        due.is("product(0, 65535)", x.product(0, 65535), 0);
        due.is("product(0, 0)", x.product(0, 0), 0);
        due.is("product(65535, 65535)", x.product(65535, 65535), 65535);
        due.is("add(0)", x.add(0), 0);
        due.is("zeros()", x.zeros(), 65535);
        due.is("add(65535)", x.add(65535), 1);
        due.is("zeros()", x.zeros(), 65534);
        due.is("contains(65535)", x.contains(65535), true);
        due.is("rest(65535)", x.rest(65535), 0);
    }

    private static void sumsModulo2(Due due) {
        BooleanBasis x = new BooleanBasis();
        // One monomial more at each step, all of them 1 at point 15.
        for (int count = 1; count <= 16; count++) {
            int f = (1 << count) - 1;
            due.is("value(" + f + ", 15)", x.value(f, 15), count % 2);
        }
        due.is("product(6, 6): twice variable 0 times variable 1", x.product(6, 6), 6);
        due.is("product(3, 2): variable 0 twice", x.product(3, 2), 0);
        due.is("product(65535, 2)", x.product(65535, 2), 0);
        due.is("product(65534, 65534)", x.product(65534, 65534), 65534);
        due.is("product(65534, 65535)", x.product(65534, 65535), 0);
    }

    private static void exactlyOneProduct(Due due) {
        Supply none = supply(due, State.of("no generator"));
        for (int f = 0; f < 65536; f++) {
            // The first has the values of f, so it is f; the second is 0 everywhere.
            due.is("product of f and f", none.next().product(f, f), f);
            due.is("product of f and f + 1", none.next().product(f, f ^ 1), 0);
        }
    }

    private static void sixGenerators(Due due) {
        BooleanBasis x = with(due, 2, 4, 16, 256, 8, 0);
        due.is("generators()", x.generators(), 63);
        due.is("add(1)", x.add(1), FULL);
        due.is("remove(6)", x.remove(6), false);
        due.is("redundant(5)", x.redundant(5), true);
        due.is("redundant(6)", x.redundant(6), false);
        due.is("remove(5)", x.remove(5), true);
        due.is("generators()", x.generators(), 31);
        due.is("add(1)", x.add(1), 5);
        due.is("add(1)", x.add(1), FULL);
        due.is("contains(1)", x.contains(1), true);
        due.is("remove(0)", x.remove(0), true);
        due.is("generators()", x.generators(), 62);
        due.is("remove(-1)", x.remove(-1), false);
    }

    private static void zeroAlone(Due due) {
        State[] states = {
            State.of("no generator"),
            State.of("taken away", 1, 2).remove(0).remove(1),
            State.of("six taken away", 1, 2, 4, 16, 256, 1)
                .remove(0).remove(5).remove(1).remove(4).remove(2).remove(3),
            State.of("0", 0),
            State.of("six times 0", 0, 0, 0, 0, 0, 0)};
        for (State state : states) {
            Supply supply = supply(due, state);
            for (int f = 0; f < 65536; f++) {
                due.is(state.name() + ": contains", supply.next().contains(f), f == 0);
            }
            due.is(state.name() + ": basisSize()", supply.next().basisSize(), 0);
            due.is(state.name() + ": relates(15)", supply.next().relates(15), false);
        }
    }

    private static void allPolynomials(Due due) {
        State[] states = {
            State.of("1", 1),
            State.of("f and f + 1", 4096, 4097),
            State.of("six", 65535, 32768, 3, 5, 17, 257),
            State.of("all by the last of six", 2, 2, 8, 8, 0, 3)};
        for (State state : states) {
            Supply supply = supply(due, state);
            for (int f = 0; f < 65536; f++) {
                due.is(state.name() + ": contains", supply.next().contains(f), true);
            }
            due.is(state.name() + ": basisSize()", supply.next().basisSize(), 1);
            due.is(state.name() + ": relates(0)", supply.next().relates(0), true);
        }
    }

    private static void zerosOfNoneAndOfSix(Due due) {
        due.is("no generator: zeros()", new BooleanBasis().zeros(), 65535);
        due.is("0: zeros()", with(due, 0).zeros(), 65535);
        due.is("six times 0: zeros()", with(due, 0, 0, 0, 0, 0, 0).zeros(), 65535);
        due.is("1: zeros()", with(due, 1).zeros(), 0);
        for (int i = 0; i < 6; i++) {
            // One of the six alone is 1 at point 15, and nowhere else.
            int[] six = new int[6];
            six[i] = 32768;
            due.is("number " + i + " of six: zeros()", with(due, six).zeros(), 32767);
            six[i] = 65535;
            due.is("number " + i + " of six: zeros()", with(due, six).zeros(), 65534);
        }
    }

    private static void leastAndGreatestHead(Due due) {
        due.is("0 has none: bound()", with(due, 0).bound(), 0);
        due.is("six times 0: bound()", with(due, 0, 0, 0, 0, 0, 0).bound(), 0);
        // 1 is the only polynomial whose head is 0.
        due.is("1: bound()", with(due, 1).bound() & 1, 1);
        due.is("65534, 65535: bound()", with(due, 65534, 65535).bound() & 1, 1);
        due.is("65535: bound()", with(due, 65535).bound(), 32768);
        due.is("65535: basisAt(0)", with(due, 65535).basisAt(0), 65535);
        due.is("32769: bound()", with(due, 32769).bound(), 65534);
    }

    private static void noneAndAllBound(Due due) {
        due.is("no generator: bound()", new BooleanBasis().bound(), 0);
        due.is("1: bound()", with(due, 1).bound(), 65535);
        due.is("six: bound()", with(due, 65535, 32768, 3, 5, 17, 257).bound(), 65535);
        for (int p = 0; p < 16; p++) {
            // With one zero, 1 alone is free.
            int[] point = {2 | p & 1, 4 | p >> 1 & 1, 16 | p >> 2 & 1, 256 | p >> 3};
            due.is("the zero " + p + ": bound()", with(due, point).bound(), 65534);
        }
    }

    private static void restsWithNoneAndAllFree(Due due) {
        Supply none = supply(due, State.of("no generator"));
        Supply zero = supply(due, State.of("0", 0));
        Supply all = supply(due, State.of("1", 1));
        Supply six = supply(due, State.of("six", 65535, 32768, 3, 5, 17, 257));
        Supply one = supply(due, State.of("the zero 0", 2, 4, 16, 256));
        for (int f = 0; f < 65536; f++) {
            due.is("no generator: rest", none.next().rest(f), f);
            due.is("0: rest", zero.next().rest(f), f);
            due.is("1: rest", all.next().rest(f), 0);
            due.is("six: rest", six.next().rest(f), 0);
            due.is("the zero 0: rest", one.next().rest(f), f & 1);
        }
    }

    private static void noOtherBoundSubset(Due due) {
        BooleanBasis all = with(due, 65535, 32768, 3, 5, 17, 257);
        due.is("all: basisSize()", all.basisSize(), 1);
        due.is("all: basisAt(0)", all.basisAt(0), 1);
        BooleanBasis last = with(due, 32768);
        due.is("32768: basisSize()", last.basisSize(), 1);
        due.is("32768: basisAt(0)", last.basisAt(0), 32768);
        BooleanBasis nested = with(due, 32768, 2048, 8, 2);
        due.is("each a subset of the one before: basisSize()", nested.basisSize(), 1);
        due.is("each a subset of the one before: basisAt(0)", nested.basisAt(0), 2);
        // Monomial 3 is less than monomial 4, but neither is a subset of the other.
        BooleanBasis beside = with(due, 16, 8);
        due.is("16, 8: basisSize()", beside.basisSize(), 2);
        due.is("16, 8: basisAt(0)", beside.basisAt(0), 8);
        due.is("16, 8: basisAt(1)", beside.basisAt(1), 16);
    }

    private static void leastHeadFirst(Due due) {
        BooleanBasis up = with(due, PAIRS);
        BooleanBasis down = with(due, 4096, 1024, 512, 64, 32, 8);
        for (int i = 0; i < 6; i++) {
            due.is("basisAt(" + i + "), added upwards", up.basisAt(i), PAIRS[i]);
            due.is("basisAt(" + i + "), added downwards", down.basisAt(i), PAIRS[i]);
        }
        due.is("basisAt(6)", up.basisAt(6), NONE);
        due.is("basisSize()", down.basisSize(), 6);
    }
}
