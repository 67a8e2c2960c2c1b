import java.util.function.Predicate;
import java.util.function.ToIntFunction;

/** One call with the answer that is due; true is 1 and false is 0. */
record Call(String name, ToIntFunction<BooleanBasis> made, int due) {
    static Call of(String name, Predicate<BooleanBasis> made, boolean due) {
        return new Call(name, x -> made.test(x) ? 1 : 0, due ? 1 : 0);
    }

    void on(BooleanBasis x, Due counted, String where) {
        int answer = made.applyAsInt(x);
        if (answer != due) {
            counted.is(where + name, answer, due);
        }
    }
}
