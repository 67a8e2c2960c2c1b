import java.util.List;

/**
 * Hands out an object on which a list of calls has been made. Since nothing is
 * promised after 512 calls, it makes another object when one has had its last.
 */
final class Supply {
    private static final int MOST_CALLS = 512;

    private final Due due;
    private final String where;
    private final List<Call> before;
    private BooleanBasis object;
    private int calls = MOST_CALLS;

    Supply(Due due, String where, List<Call> before) {
        if (before.size() >= MOST_CALLS) {
            throw new IllegalStateException("no call is left: " + where);
        }
        this.due = due;
        this.where = where;
        this.before = before;
    }

    /** An object on which one call may be made. */
    BooleanBasis next() {
        if (calls == MOST_CALLS) {
            object = new BooleanBasis();
            for (Call call : before) {
                call.on(object, due, where);
            }
            calls = before.size();
        }
        calls++;
        return object;
    }

    void ask(List<Call> questions) {
        for (Call question : questions) {
            question.on(next(), due, where);
        }
    }

    void askEveryPolynomial(State state) {
        for (int f = 0; f < 65536; f++) {
            if (next().contains(f) != state.contains(f)) {
                due.is(where + "contains(" + f + ")", !state.contains(f), state.contains(f));
            }
            int rest = next().rest(f);
            if (rest != state.rest(f)) {
                due.is(where + "rest(" + f + ")", rest, state.rest(f));
            }
        }
    }
}
