import java.util.HashMap;
import java.util.List;
import java.util.Map;

/**
 * Every run of up to four calls out of a short list, so that adds, removes,
 * questions and refused calls stand in every order, behind each of some starts.
 * At the end of each run all questions are asked.
 */
public final class ShortRunsTest {
    private static final int LONGEST = 4;

    private record Choice(String method, int number) {
    }

    private static final List<Choice> CHOICES = List.of(
        new Choice("add", 2),
        new Choice("add", 20),
        new Choice("add", 65536),
        new Choice("remove", 0),
        new Choice("remove", 1),
        new Choice("remove", 5),
        new Choice("remove", 6),
        new Choice("contains", 22),
        new Choice("rest", 65535),
        new Choice("rest", -1),
        new Choice("basisAt", 0),
        new Choice("redundant", 1),
        new Choice("relates", 6),
        new Choice("values", 0));

    private static final List<State> STARTS = List.of(
        State.of("new"),
        State.of("two alike", 20, 20),
        State.of("five, number 1 is free", 6, 20, 8, 0, 278).remove(1).add(3).add(128).remove(1),
        State.of("six", 6, 2, 8, 0, 20, 4096));

    private static final Due DUE = new Due();
    private static final Map<List<Integer>, Place> PLACES = new HashMap<>();

    /** What is due while the same generators have the same numbers. */
    private static final class Place {
        private final State state;
        private final List<Call> questions;
        private final List<Call> questionsOutside;
        private final Call[] calls = new Call[CHOICES.size()];
        private final Place[] next = new Place[CHOICES.size()];

        private Place(State state) {
            this.state = state;
            questions = state.questions();
            questionsOutside = state.questionsOutside();
        }

        static Place of(State state) {
            return PLACES.computeIfAbsent(state.held(), held -> new Place(state));
        }

        Call call(int choice) {
            if (calls[choice] == null) {
                State behind = state.copy("");
                Choice chosen = CHOICES.get(choice);
                calls[choice] = behind.make(chosen.method(), chosen.number());
                next[choice] = of(behind);
            }
            return calls[choice];
        }

        Place behind(int choice) {
            return next[choice];
        }
    }

    public static void main(String[] args) {
        for (State start : STARTS) {
            int runs = 1;
            for (int length = 0; length <= LONGEST; length++) {
                for (int run = 0; run < runs; run++) {
                    checkRun(start, length, run);
                }
                runs *= CHOICES.size();
            }
        }
        DUE.end();
    }

    /** The digits of run, to the base of the number of choices, tell the calls. */
    private static void checkRun(State start, int length, int run) {
        BooleanBasis x = new BooleanBasis();
        for (Call step : start.steps()) {
            step.on(x, DUE, start.name() + ": ");
        }
        Place place = Place.of(start);
        StringBuilder where = new StringBuilder(start.name() + ": ");
        int left = run;
        for (int k = 0; k < length; k++) {
            int choice = left % CHOICES.size();
            left /= CHOICES.size();
            Call call = place.call(choice);
            call.on(x, DUE, where.toString());
            where.append(call.name()).append(", ");
            place = place.behind(choice);
        }
        askAll(x, place, where.toString());
    }

    private static void askAll(BooleanBasis x, Place place, String where) {
        for (Call question : place.questions) {
            question.on(x, DUE, where);
        }
        for (Call question : place.questionsOutside) {
            question.on(x, DUE, where);
        }
    }
}
