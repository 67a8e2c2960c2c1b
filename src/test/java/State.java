import java.util.ArrayList;
import java.util.Arrays;
import java.util.List;

/**
 * What the document says of an object after some generators were added and
 * taken away. It follows the terms word by word, by way of Definitions.
 */
final class State {
    private final String name;
    private final List<Call> steps = new ArrayList<>();
    // The polynomial of each number, or -1 where there is none.
    private final int[] held = {-1, -1, -1, -1, -1, -1};
    // Worked out when asked for: a long run passes through many ideals.
    private Definitions.Ideal ideal;
    private int[] basis;
    private int[] rests;
    private List<Call> questions;

    private State(String name) {
        this.name = name;
    }

    /** Adds the polynomials to a new object. */
    static State of(String name, int... polynomials) {
        State state = new State(name);
        for (int f : polynomials) {
            state.add(f);
        }
        return state;
    }

    State copy(String more) {
        State copy = new State(name + more);
        copy.steps.addAll(steps);
        System.arraycopy(held, 0, copy.held, 0, held.length);
        return copy;
    }

    State add(int f) {
        int number = leastFree();
        held[number] = f;
        steps.add(new Call("add(" + f + ")", x -> x.add(f), number));
        forget();
        return this;
    }

    State remove(int i) {
        if (held[i] < 0) {
            throw new IllegalStateException("there is no generator " + i);
        }
        held[i] = -1;
        steps.add(Call.of("remove(" + i + ")", x -> x.remove(i), true));
        forget();
        return this;
    }

    private void forget() {
        ideal = null;
        questions = null;
    }

    private int leastFree() {
        for (int i = 0; i < 6; i++) {
            if (held[i] < 0) {
                return i;
            }
        }
        throw new IllegalStateException("there are six");
    }

    String name() {
        return name;
    }

    /** The calls that lead here. */
    List<Call> steps() {
        return List.copyOf(steps);
    }

    boolean holds(int i) {
        return i >= 0 && i < 6 && held[i] >= 0;
    }

    int generators() {
        int set = 0;
        for (int i = 0; i < 6; i++) {
            if (holds(i)) {
                set |= 1 << i;
            }
        }
        return set;
    }

    boolean isFull() {
        return generators() == 63;
    }

    boolean contains(int f) {
        workOut();
        return isPolynomial(f) && ideal.contains(f);
    }

    int rest(int f) {
        workOut();
        return isPolynomial(f) ? rests[f] : -1;
    }

    int basisSize() {
        workOut();
        return basis.length;
    }

    int basisAt(int i) {
        workOut();
        return i >= 0 && i < basis.length ? basis[i] : -1;
    }

    int zeros() {
        return Definitions.zeros(heldWithout(-1));
    }

    int values(int i) {
        return i >= 0 && i < 4 ? Definitions.values(zeros(), i) : 0;
    }

    boolean redundant(int i) {
        return holds(i) && Definitions.ideal(heldWithout(i)).contains(held[i]);
    }

    boolean relates(int vars) {
        workOut();
        return vars >= 0 && vars < 16 && ideal.relates(vars);
    }

    private void workOut() {
        if (ideal == null) {
            ideal = Definitions.ideal(heldWithout(-1));
            basis = ideal.basis();
            rests = ideal.rests();
        }
    }

    private static boolean isPolynomial(int f) {
        return f >= 0 && f <= 65535;
    }

    private int[] heldWithout(int left) {
        int[] found = new int[6];
        int count = 0;
        for (int i = 0; i < 6; i++) {
            if (holds(i) && i != left) {
                found[count] = held[i];
                count++;
            }
        }
        return Arrays.copyOf(found, count);
    }

    /** Every question but contains and rest of each polynomial: of those, the ends and the monomials. */
    List<Call> questions() {
        if (questions == null) {
            workOut();
            questions = allQuestions();
        }
        return questions;
    }

    private List<Call> allQuestions() {
        List<Call> asked = new ArrayList<>();
        asked.add(new Call("generators()", x -> x.generators(), generators()));
        asked.add(new Call("basisSize()", x -> x.basisSize(), basisSize()));
        asked.add(new Call("bound()", x -> x.bound(), ideal.bound()));
        asked.add(new Call("zeros()", x -> x.zeros(), zeros()));
        asked.add(new Call("zeroCount()", x -> x.zeroCount(), Integer.bitCount(zeros())));
        for (int i : within(-1, 7)) {
            asked.add(new Call("basisAt(" + i + ")", x -> x.basisAt(i), basisAt(i)));
            asked.add(Call.of("redundant(" + i + ")", x -> x.redundant(i), redundant(i)));
        }
        for (int i : within(-1, 4)) {
            asked.add(new Call("values(" + i + ")", x -> x.values(i), values(i)));
        }
        for (int vars : within(-1, 16)) {
            asked.add(Call.of("relates(" + vars + ")", x -> x.relates(vars), relates(vars)));
        }
        for (int f : somePolynomials()) {
            asked.add(Call.of("contains(" + f + ")", x -> x.contains(f), contains(f)));
            asked.add(new Call("rest(" + f + ")", x -> x.rest(f), rest(f)));
        }
        addFixedQuestions(asked);
        return asked;
    }

    /** These have the same answers in every state. */
    private static void addFixedQuestions(List<Call> asked) {
        asked.add(new Call("product(6, 18)", x -> x.product(6, 18), 2 ^ 8 ^ 32 ^ 64));
        asked.add(new Call("product(65535, 65535)", x -> x.product(65535, 65535), 65535));
        asked.add(new Call("product(65536, 1)", x -> x.product(65536, 1), -1));
        asked.add(new Call("value(32768, 15)", x -> x.value(32768, 15), 1));
        asked.add(new Call("value(65535, 15)", x -> x.value(65535, 15), 0));
        asked.add(new Call("value(1, 16)", x -> x.value(1, 16), -1));
    }

    private static int[] within(int first, int last) {
        int[] numbers = new int[last - first + 3];
        for (int k = 0; k <= last - first; k++) {
            numbers[k] = first + k;
        }
        numbers[last - first + 1] = Integer.MIN_VALUE;
        numbers[last - first + 2] = Integer.MAX_VALUE;
        return numbers;
    }

    private static int[] somePolynomials() {
        int[] chosen = {0, 65534, 65535, -1, 65536, Integer.MIN_VALUE, Integer.MAX_VALUE};
        int[] all = Arrays.copyOf(chosen, chosen.length + 16);
        for (int m = 0; m < 16; m++) {
            all[chosen.length + m] = 1 << m;
        }
        return all;
    }
}
