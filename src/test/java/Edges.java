import java.util.function.Consumer;

/** Runs the test of one edge on every size of fabric, under the words of the document that name the edge. */
final class Edges {
    private final Check check;

    Edges(Check check) {
        this.check = check;
    }

    void edge(String words, Consumer<Size> test) {
        for (int log = 1; log <= 5; log++) {
            for (int slots = 1; slots <= 4; slots++) {
                Size z = Size.of(log, slots);
                check.part(words + " [N = " + z.n() + ", K = " + z.k() + "]");
                run(test, z);
            }
        }
    }

    // A call that throws is a wrong answer under its own words and must not hide the edges after it.
    private void run(Consumer<Size> test, Size z) {
        try {
            test.accept(z);
        } catch (RuntimeException thrown) {
            check.due("that no call throws (" + thrown + ")", false);
        }
    }
}
