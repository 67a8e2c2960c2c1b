import java.util.ArrayList;
import java.util.Arrays;
import java.util.List;

/**
 * What the document says of an object after some generators were added and
 * taken away. It follows the terms word by word, by way of Definitions.
 */
final class State {
    private final String name;
    private final List<Call> steps = new ArrayList<>();
    // The polynomial of each number, or -1 where there is none.
    private final int[] held = {-1, -1, -1, -1, -1, -1};
    // Worked out when asked for: a long run passes through many ideals.
    private Definitions.Ideal ideal;
    private int[] basis;
    private int[] rests;

    private State(String name) {
        this.name = name;
    }

    /** Adds the polynomials to a new object. */
    static State of(String name, int... polynomials) {
        State state = new State(name);
        for (int f : polynomials) {
            state.add(f);
        }
        return state;
    }

    State copy(String more) {
        State copy = new State(name + more);
        copy.steps.addAll(steps);
        System.arraycopy(held, 0, copy.held, 0, held.length);
        return copy;
    }

    State add(int f) {
        int number = leastFree();
        held[number] = f;
        steps.add(new Call("add(" + f + ")", x -> x.add(f), number));
        ideal = null;
        return this;
    }

    State remove(int i) {
        if (held[i] < 0) {
            throw new IllegalStateException("there is no generator " + i);
        }
        held[i] = -1;
        steps.add(Call.of("remove(" + i + ")", x -> x.remove(i), true));
        ideal = null;
        return this;
    }

    private int leastFree() {
        for (int i = 0; i < 6; i++) {
            if (held[i] < 0) {
                return i;
            }
        }
        throw new IllegalStateException("there are six");
    }

    /** Makes any call, refused or not, and gives it back with the answer that is due. */
    Call make(String method, int n) {
        return switch (method) {
            case "add" -> makeAdd(n);
            case "remove" -> makeRemove(n);
            default -> question(method, n);
        };
    }

    private Call makeAdd(int f) {
        if (!isPolynomial(f)) {
            return new Call("add(" + f + ")", x -> x.add(f), -1);
        }
        if (isFull()) {
            return new Call("add(" + f + ")", x -> x.add(f), -2);
        }
        add(f);
        return steps.get(steps.size() - 1);
    }

    private Call makeRemove(int i) {
        if (!holds(i)) {
            return Call.of("remove(" + i + ")", x -> x.remove(i), false);
        }
        remove(i);
        return steps.get(steps.size() - 1);
    }

    String name() {
        return name;
    }

    /** The polynomial of each number, or -1 where there is none: all that answers depend on. */
    List<Integer> held() {
        return Arrays.stream(held).boxed().toList();
    }

    /** The calls that lead here. */
    List<Call> steps() {
        return List.copyOf(steps);
    }

    boolean holds(int i) {
        return i >= 0 && i < 6 && held[i] >= 0;
    }

    int generators() {
        int set = 0;
        for (int i = 0; i < 6; i++) {
            if (holds(i)) {
                set |= 1 << i;
            }
        }
        return set;
    }

    boolean isFull() {
        return generators() == 63;
    }

    boolean contains(int f) {
        workOut();
        return isPolynomial(f) && ideal.contains(f);
    }

    int rest(int f) {
        workOut();
        return isPolynomial(f) ? rests[f] : -1;
    }

    int basisSize() {
        workOut();
        return basis.length;
    }

    int basisAt(int i) {
        workOut();
        return i >= 0 && i < basis.length ? basis[i] : -1;
    }

    int zeros() {
        return Definitions.zeros(heldWithout(-1));
    }

    int values(int i) {
        return i >= 0 && i < 4 ? Definitions.values(zeros(), i) : 0;
    }

    boolean redundant(int i) {
        return holds(i) && Definitions.ideal(heldWithout(i)).contains(held[i]);
    }

    boolean relates(int vars) {
        workOut();
        return vars >= 0 && vars < 16 && ideal.relates(vars);
    }

    private void workOut() {
        if (ideal == null) {
            ideal = Definitions.ideal(heldWithout(-1));
            basis = ideal.basis();
            rests = ideal.rests();
        }
    }

    private static boolean isPolynomial(int f) {
        return f >= 0 && f <= 65535;
    }

    private int[] heldWithout(int left) {
        int[] found = new int[6];
        int count = 0;
        for (int i = 0; i < 6; i++) {
            if (holds(i) && i != left) {
                found[count] = held[i];
                count++;
            }
        }
        return Arrays.copyOf(found, count);
    }

    /** Answers to contains(f) at 2f, to rest(f) at 2f + 1. */
    int[] everyContainsAndRest() {
        int[] answers = new int[131072];
        for (int f = 0; f < 65536; f++) {
            answers[2 * f] = contains(f) ? 1 : 0;
            answers[2 * f + 1] = rest(f);
        }
        return answers;
    }

    /**
     * All questions with numbers inside their bounds; of the many polynomials
     * the ends and the monomials.
     */
    List<Call> questions() {
        workOut();
        List<Call> asked = new ArrayList<>();
        asked.add(new Call("generators()", x -> x.generators(), generators()));
        asked.add(new Call("basisSize()", x -> x.basisSize(), basisSize()));
        asked.add(new Call("bound()", x -> x.bound(), ideal.bound()));
        asked.add(new Call("zeros()", x -> x.zeros(), zeros()));
        asked.add(new Call("zeroCount()", x -> x.zeroCount(), Integer.bitCount(zeros())));
        asked.add(new Call("product(6, 18)", x -> x.product(6, 18), 2 ^ 8 ^ 32 ^ 64));
        asked.add(new Call("product(65535, 65535)", x -> x.product(65535, 65535), 65535));
        asked.add(new Call("value(32768, 15)", x -> x.value(32768, 15), 1));
        asked.add(new Call("value(65535, 15)", x -> x.value(65535, 15), 0));
        askWith(asked, new int[] {0, 1, 2, 3, 4, 5}, "basisAt", "redundant");
        askWith(asked, new int[] {0, 1, 2, 3}, "values");
        askWith(asked, new int[] {0, 1, 2, 3, 4, 5, 6, 7, 8, 9, 10, 11, 12, 13, 14, 15}, "relates");
        askWith(asked, endsAndMonomials(), "contains", "rest");
        return asked;
    }

    /** Questions with numbers outside their bounds. */
    List<Call> questionsOutside() {
        List<Call> asked = new ArrayList<>();
        asked.add(new Call("product(65536, 1)", x -> x.product(65536, 1), -1));
        asked.add(new Call("product(1, -1)", x -> x.product(1, -1), -1));
        asked.add(new Call("value(65536, 1)", x -> x.value(65536, 1), -1));
        asked.add(new Call("value(1, 16)", x -> x.value(1, 16), -1));
        askWith(asked, Edges.NO_PLACE, "basisAt");
        askWith(asked, Edges.NO_GENERATOR, "redundant");
        askWith(asked, Edges.NO_VARIABLE, "values");
        askWith(asked, Edges.NO_POINT, "relates");
        askWith(asked, Edges.NO_POLYNOMIAL, "contains", "rest");
        return asked;
    }

    private void askWith(List<Call> asked, int[] numbers, String... methods) {
        for (String method : methods) {
            for (int number : numbers) {
                asked.add(question(method, number));
            }
        }
    }

    private Call question(String method, int n) {
        String call = method + "(" + n + ")";
        return switch (method) {
            case "basisAt" -> new Call(call, x -> x.basisAt(n), basisAt(n));
            case "redundant" -> Call.of(call, x -> x.redundant(n), redundant(n));
            case "values" -> new Call(call, x -> x.values(n), values(n));
            case "relates" -> Call.of(call, x -> x.relates(n), relates(n));
            case "contains" -> Call.of(call, x -> x.contains(n), contains(n));
            case "rest" -> new Call(call, x -> x.rest(n), rest(n));
            default -> throw new IllegalStateException(method);
        };
    }

    private static int[] endsAndMonomials() {
        int[] polynomials = new int[19];
        polynomials[1] = 65534;
        polynomials[2] = 65535;
        for (int m = 0; m < 16; m++) {
            polynomials[3 + m] = 1 << m;
        }
        return polynomials;
    }
}
