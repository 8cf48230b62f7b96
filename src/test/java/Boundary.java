import java.util.List;
import java.util.function.Consumer;
import java.util.function.Supplier;

/**
 * One boundary case of the document: the sentence that names it, the test of
 * it, and tables for which the sentence does not hold, each of which the test
 * has to find.
 */
record Boundary(String section, String sentence, String name,
                Consumer<Probe> test, List<Supplier<Table>> faults) {

    String title() {
        return section + ", \"" + sentence + "\": " + name;
    }
}
