import java.util.ArrayList;
import java.util.List;

/**
 * Hands out an object on which a list of calls has been made. Since nothing is
 * promised after 512 calls, it makes another object when one has had its last.
 */
final class Supply {
    private static final int MOST_CALLS = 512;

    private final Due due;
    private final String where;
    private final List<Call> before;
    private BooleanBasis object;
    private int calls = MOST_CALLS;

    Supply(Due due, String where, List<Call> before) {
        if (before.size() >= MOST_CALLS) {
            throw new IllegalStateException("no call is left: " + where);
        }
        this.due = due;
        this.where = where;
        this.before = before;
    }

    /** An object on which one call may be made. */
    BooleanBasis next() {
        if (calls == MOST_CALLS) {
            object = new BooleanBasis();
            for (Call call : before) {
                call.on(object, due, where);
            }
            calls = before.size();
        }
        calls++;
        return object;
    }

    void ask(List<Call> questions) {
        for (Call question : questions) {
            question.on(next(), due, where);
        }
    }

    /** The same questions, with the answers that are given now as those due. */
    List<Call> recorded(List<Call> questions) {
        List<Call> recorded = new ArrayList<>();
        for (Call question : questions) {
            int answer = question.made().applyAsInt(next());
            recorded.add(new Call(question.name(), question.made(), answer));
        }
        return recorded;
    }

    /** Answers to contains(f) at 2f, to rest(f) at 2f + 1. */
    int[] everyContainsAndRest() {
        int[] answers = new int[131072];
        for (int f = 0; f < 65536; f++) {
            answers[2 * f] = next().contains(f) ? 1 : 0;
            answers[2 * f + 1] = next().rest(f);
        }
        return answers;
    }

    void askEveryContainsAndRest(int[] answersDue) {
        int[] answers = everyContainsAndRest();
        for (int k = 0; k < answers.length; k++) {
            if (answers[k] != answersDue[k]) {
                String call = (k % 2 == 0 ? "contains(" : "rest(") + k / 2 + ")";
                due.is(where + call, answers[k], answersDue[k]);
            }
        }
    }
}
