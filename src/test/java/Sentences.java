import java.util.ArrayList;
import java.util.List;
import java.util.function.Consumer;

/** Runs a test for each sentence of the document and tells which ones do not hold. */
final class Sentences {
    private final List<String> broken = new ArrayList<>();

    void test(String sentence, Consumer<Due> body) {
        Due due = new Due();
        try {
            body.accept(due);
        } catch (RuntimeException thrown) {
            // No call may throw; the sentences behind this one are still looked at.
            due.is("a call threw " + thrown + ";", true, false);
        }
        if (due.wrong() != 0) {
            broken.add(sentence);
        }
        System.out.println((due.wrong() == 0 ? "holds: " : "BROKEN: ") + sentence);
    }

    void end() {
        if (!broken.isEmpty()) {
            System.out.println(broken.size() + " sentences do not hold");
            System.exit(1);
        }
    }
}
