import java.util.ArrayList;
import java.util.List;

/**
 * One test for each sentence of the document that refuses a call. Each call is
 * made in every one of the states below; behind it every answer, also of what
 * is added and taken away later, must be what it would be without it.
 */
public final class RefusedCallsTest {
    private static final int NONE = -1;
    private static final int FULL = -2;
    private static final List<State> STATES = List.of(
        State.of("no generator"),
        // A polynomial that was taken away must not be seen through its old number.
        State.of("0 and 1 taken away", 0, 1, 0, 2, 0, 0)
            .remove(5).remove(1).remove(0).remove(3).remove(2).remove(4),
        State.of("0 alone of one", 0),
        State.of("0 alone of six", 0, 0, 0, 0, 0, 0),
        State.of("all of one", 1),
        State.of("all of six", 65535, 32768, 3, 5, 17, 257),
        State.of("all of the last of six", 2, 2, 8, 8, 0, 3),
        State.of("one zero", 32769),
        State.of("all but one zero", 65535),
        State.of("six with the largest basis", 8, 32, 64, 512, 1024, 4096),
        State.of("six, some redundant", 2, 20, 22, 8, 278, 0),
        State.of("five, number 0 is free", 0, 20, 257, 20, 8, 6).remove(0),
        State.of("five, number 5 is free", 6, 20, 128, 20, 8, 0).remove(5),
        State.of("two, number 1 is free", 2, 0, 16).remove(1));

    // One for each of STATES.
    private static final List<Start> STARTS = new ArrayList<>();

    private static final Sentences SENTENCES = new Sentences();

    public static void main(String[] args) {
        SENTENCES.test("all states can be made", RefusedCallsTest::recordAnswers);
        refuses("2: NONE when f is not 0 .. 65535", RefusedCallsTest::addOfNoPolynomial);
        refuses("2: FULL when there are six", RefusedCallsTest::addToSix);
        refuses("3: false, changing nothing, when there is none", RefusedCallsTest::removeOfNone);
        refuses("5: NONE when f or g is not 0 .. 65535", RefusedCallsTest::productOfNoPolynomial);
        refuses("6: NONE when f is not 0 .. 65535", RefusedCallsTest::valueOfNoPolynomial);
        refuses("6: NONE when the point is not 0 .. 15", RefusedCallsTest::valueAtNoPoint);
        refuses("7: false when f is not 0 .. 65535", RefusedCallsTest::containsNoPolynomial);
        refuses("8: NONE when f is not 0 .. 65535", RefusedCallsTest::restOfNoPolynomial);
        refuses("10: NONE when there is none", RefusedCallsTest::basisAtNoPlace);
        refuses("14: 0 when there are no zeros", RefusedCallsTest::valuesWithoutZeros);
        refuses("14: 0 when i is not 0 .. 3", RefusedCallsTest::valuesOfNoVariable);
        refuses("15: false when there is no generator i", RefusedCallsTest::redundantOfNone);
        refuses("16: false when vars is another number", RefusedCallsTest::relatesOfNoSet);
        SENTENCES.test("17: add: NONE is tested before FULL", RefusedCallsTest::noneBeforeFull);
        SENTENCES.test("17: a call that is refused changes nothing", RefusedCallsTest::allInOneRun);
        SENTENCES.end();
    }

    private interface Refusals {
        List<Call> in(State state);
    }

    /** The answers in a state that no refused call led to. */
    private record Answers(State state, List<Call> questions) {
    }

    /** A state in which calls are refused, with all its answers and what can come behind it. */
    private record Start(Answers here, int[] containsAndRest, List<Answers> later) {
        State state() {
            return here.state();
        }
    }

    private static void recordAnswers(Due due) {
        for (State state : STATES) {
            List<Answers> later = new ArrayList<>();
            for (State next : statesBehind(state)) {
                later.add(answersIn(due, next));
            }
            int[] containsAndRest = supplyOf(due, state).everyContainsAndRest();
            STARTS.add(new Start(answersIn(due, state), containsAndRest, later));
        }
    }

    /** What the program itself answers: other tests look whether that is right. */
    private static Answers answersIn(Due due, State state) {
        return new Answers(state, supplyOf(due, state).recorded(state.questions()));
    }

    private static Supply supplyOf(Due due, State state) {
        return new Supply(due, state.name() + ": ", state.steps());
    }

    private static void refuses(String sentence, Refusals refusals) {
        SENTENCES.test(sentence, due -> behindEach(due, refusals));
    }

    private static List<Call> addOfNoPolynomial(State state) {
        List<Call> calls = new ArrayList<>();
        for (int f : Edges.NO_POLYNOMIAL) {
            calls.add(new Call("add(" + f + ")", x -> x.add(f), NONE));
        }
        return calls;
    }

    private static List<Call> addToSix(State state) {
        List<Call> calls = new ArrayList<>();
        if (state.isFull()) {
            for (int f : Edges.POLYNOMIAL) {
                calls.add(new Call("add(" + f + ")", x -> x.add(f), FULL));
            }
        }
        return calls;
    }

    private static List<Integer> numbersWithoutGenerator(State state) {
        List<Integer> numbers = new ArrayList<>();
        for (int i : Edges.NO_GENERATOR) {
            numbers.add(i);
        }
        for (int i = 0; i < 6; i++) {
            if (!state.holds(i)) {
                numbers.add(i);
            }
        }
        return numbers;
    }

    private static List<Call> removeOfNone(State state) {
        List<Call> calls = new ArrayList<>();
        for (int i : numbersWithoutGenerator(state)) {
            calls.add(Call.of("remove(" + i + ")", x -> x.remove(i), false));
        }
        return calls;
    }

    private static List<Call> productOfNoPolynomial(State state) {
        List<Call> calls = new ArrayList<>();
        for (int f : Edges.NO_POLYNOMIAL) {
            calls.add(new Call("product(" + f + ", 0)", x -> x.product(f, 0), NONE));
            calls.add(new Call("product(" + f + ", 65535)", x -> x.product(f, 65535), NONE));
            calls.add(new Call("product(0, " + f + ")", x -> x.product(0, f), NONE));
            calls.add(new Call("product(65535, " + f + ")", x -> x.product(65535, f), NONE));
            calls.add(new Call("product(" + f + ", " + f + ")", x -> x.product(f, f), NONE));
        }
        return calls;
    }

    private static List<Call> valueOfNoPolynomial(State state) {
        List<Call> calls = new ArrayList<>();
        for (int f : Edges.NO_POLYNOMIAL) {
            calls.add(new Call("value(" + f + ", 0)", x -> x.value(f, 0), NONE));
            calls.add(new Call("value(" + f + ", 15)", x -> x.value(f, 15), NONE));
            calls.add(new Call("value(" + f + ", 16)", x -> x.value(f, 16), NONE));
        }
        return calls;
    }

    private static List<Call> valueAtNoPoint(State state) {
        List<Call> calls = new ArrayList<>();
        for (int point : Edges.NO_POINT) {
            calls.add(new Call("value(0, " + point + ")", x -> x.value(0, point), NONE));
            calls.add(new Call("value(65535, " + point + ")", x -> x.value(65535, point), NONE));
            calls.add(new Call("value(-1, " + point + ")", x -> x.value(-1, point), NONE));
        }
        return calls;
    }

    private static List<Call> containsNoPolynomial(State state) {
        List<Call> calls = new ArrayList<>();
        for (int f : Edges.NO_POLYNOMIAL) {
            calls.add(Call.of("contains(" + f + ")", x -> x.contains(f), false));
        }
        return calls;
    }

    private static List<Call> restOfNoPolynomial(State state) {
        List<Call> calls = new ArrayList<>();
        for (int f : Edges.NO_POLYNOMIAL) {
            calls.add(new Call("rest(" + f + ")", x -> x.rest(f), NONE));
        }
        return calls;
    }

    private static List<Call> basisAtNoPlace(State state) {
        List<Call> calls = new ArrayList<>();
        for (int i : Edges.NO_PLACE) {
            calls.add(new Call("basisAt(" + i + ")", x -> x.basisAt(i), NONE));
        }
        for (int i = state.basisSize(); i < 6; i++) {
            int place = i;
            calls.add(new Call("basisAt(" + place + ")", x -> x.basisAt(place), NONE));
        }
        return calls;
    }

    private static List<Call> valuesWithoutZeros(State state) {
        List<Call> calls = new ArrayList<>();
        for (int i = 0; i < 4 && state.zeros() == 0; i++) {
            int variable = i;
            calls.add(new Call("values(" + variable + ")", x -> x.values(variable), 0));
        }
        return calls;
    }

    private static List<Call> valuesOfNoVariable(State state) {
        List<Call> calls = new ArrayList<>();
        for (int i : Edges.NO_VARIABLE) {
            calls.add(new Call("values(" + i + ")", x -> x.values(i), 0));
        }
        return calls;
    }

    private static List<Call> redundantOfNone(State state) {
        List<Call> calls = new ArrayList<>();
        for (int i : numbersWithoutGenerator(state)) {
            calls.add(Call.of("redundant(" + i + ")", x -> x.redundant(i), false));
        }
        return calls;
    }

    private static List<Call> relatesOfNoSet(State state) {
        List<Call> calls = new ArrayList<>();
        for (int vars : Edges.NO_POINT) {
            calls.add(Call.of("relates(" + vars + ")", x -> x.relates(vars), false));
        }
        return calls;
    }

    private static void behindEach(Due due, Refusals refusals) {
        int count = 0;
        for (Start start : STARTS) {
            for (Call refused : refusals.in(start.state())) {
                behind(due, start, refused);
                count++;
            }
        }
        if (count == 0) {
            throw new IllegalStateException("no call was made");
        }
    }

    private static void behind(Due due, Start start, Call refused) {
        List<Call> questions = start.here().questions();
        List<Call> calls = new ArrayList<>(start.state().steps());
        calls.addAll(questions);
        calls.add(refused);
        new Supply(due, start.state().name() + ", " + refused.name() + ": ", calls).ask(questions);
        everythingBehind(due, start, List.of(refused), refused.name());
    }

    private static void everythingBehind(Due due, Start start, List<Call> refused, String called) {
        List<Call> calls = new ArrayList<>(start.state().steps());
        calls.addAll(refused);
        String where = start.state().name() + ", " + called + ": ";
        new Supply(due, where, calls).ask(start.here().questions());
        new Supply(due, where, calls).askEveryContainsAndRest(start.containsAndRest());
        for (Answers later : start.later()) {
            changedBehind(due, start.state(), refused, later, called);
        }
    }

    /** What a refused call left behind may show only when the generators change. */
    private static void changedBehind(Due due, State state, List<Call> refused, Answers later, String called) {
        List<Call> steps = later.state().steps();
        int here = state.steps().size();
        List<Call> calls = new ArrayList<>(steps.subList(0, here));
        calls.addAll(refused);
        calls.addAll(steps.subList(here, steps.size()));
        new Supply(due, later.state().name() + " behind " + called + ": ", calls).ask(later.questions());
    }

    private static List<State> statesBehind(State state) {
        List<State> found = new ArrayList<>();
        State emptied = state.copy(", then all taken away");
        for (int i = 0; i < 6; i++) {
            if (state.holds(i)) {
                found.add(state.copy(", then remove(" + i + ")").remove(i));
                found.add(state.copy(", then remove(" + i + ") and add(20)").remove(i).add(20));
                emptied.remove(i);
            }
        }
        if (!state.isFull()) {
            found.add(state.copy(", then add(0)").add(0));
            found.add(state.copy(", then add(3)").add(3));
        }
        found.add(emptied);
        found.add(emptied.copy(", then six added").add(2).add(20).add(8).add(0).add(20).add(4096));
        return found;
    }

    private static void noneBeforeFull(Due due) {
        for (Start start : STARTS) {
            State state = start.state();
            if (state.isFull()) {
                List<Call> refused = new ArrayList<>(addOfNoPolynomial(state));
                refused.addAll(addToSix(state));
                refused.addAll(addOfNoPolynomial(state));
                everythingBehind(due, start, refused, "add of wrong and right numbers");
            }
        }
    }

    private static void allInOneRun(Due due) {
        for (Start start : STARTS) {
            List<Call> refused = allRefusedIn(start.state());
            everythingBehind(due, start, refused, "all refused calls");
            List<Call> calls = new ArrayList<>(start.state().steps());
            calls.addAll(refused);
            new Supply(due, start.state().name() + ", all refused calls twice: ", calls).ask(refused);
        }
    }

    private static List<Call> allRefusedIn(State state) {
        List<Call> calls = new ArrayList<>();
        calls.addAll(addOfNoPolynomial(state));
        calls.addAll(addToSix(state));
        calls.addAll(removeOfNone(state));
        calls.addAll(productOfNoPolynomial(state));
        calls.addAll(valueOfNoPolynomial(state));
        calls.addAll(valueAtNoPoint(state));
        calls.addAll(containsNoPolynomial(state));
        calls.addAll(restOfNoPolynomial(state));
        calls.addAll(basisAtNoPlace(state));
        calls.addAll(valuesWithoutZeros(state));
        calls.addAll(valuesOfNoVariable(state));
        calls.addAll(redundantOfNone(state));
        calls.addAll(relatesOfNoSet(state));
        return calls;
    }
}
