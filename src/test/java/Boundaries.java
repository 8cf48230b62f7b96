import java.util.ArrayList;
import java.util.Arrays;
import java.util.List;
import java.util.function.Consumer;
import java.util.function.Supplier;

/** The boundary cases in the document's order; a test belongs to the sentence said last. */
final class Boundaries {
    private final List<Boundary> all = new ArrayList<>();
    private String section = "";
    private String sentence = "";

    List<Boundary> all() {
        return all;
    }

    void section(String words) {
        section = words;
        sentence = "";
    }

    void says(String words) {
        sentence = words;
    }

    @SafeVarargs
    @SuppressWarnings("varargs")
    final void test(String name, Consumer<Probe> test, Supplier<Table>... faults) {
        all.add(new Boundary(section, sentence, name, test, Arrays.asList(faults)));
    }
}
