import java.util.HashSet;
import java.util.List;
import java.util.Set;
import java.util.function.Supplier;

/**
 * Puts each boundary case of the document to the class. A case must also hold
 * for the Reference, and its test must fail for each of its faulty tables, so
 * that it is known to fail if its sentence did not hold.
 */
public final class BoundariesTest {
    public static void main(String[] args) {
        Boundaries boundaries = new Boundaries();
        TermsBoundaries.addTo(boundaries);
        RuleBoundaries.addTo(boundaries);
        QuestionBoundaries.addTo(boundaries);
        Set<String> titles = new HashSet<>();
        int faults = 0;
        for (Boundary boundary : boundaries.all()) {
            Check.holds("one test alone is called " + boundary.title(),
                titles.add(boundary.title()));
            holdsFor("the class", RealTable::new, boundary);
            holdsFor("the reference", Reference::new, boundary);
            findsItsFaults(boundary);
            faults += boundary.faults().size();
        }
        System.out.println(boundaries.all().size() + " boundary cases, " + faults + " faults");
        Check.end();
    }

    private static void holdsFor(String which, Supplier<Table> maker, Boundary boundary) {
        Probe probe = tried(maker, boundary);
        for (String wrong : probe.wrong()) {
            System.out.println("    " + wrong);
        }
        Check.holds(which + ": " + boundary.title(),
            probe.wrong().isEmpty() && probe.asked() > 0);
    }

    private static void findsItsFaults(Boundary boundary) {
        List<Supplier<Table>> faults = boundary.faults();
        Check.holds("there is a fault for " + boundary.title(), !faults.isEmpty());
        for (int at = 0; at < faults.size(); at++) {
            Probe probe = tried(faults.get(at), boundary);
            // A fault that throws is one wrongly made: it is to be seen by its answers.
            Check.holds("fault " + (at + 1) + " is found by " + boundary.title(),
                !probe.wrong().isEmpty() && !probe.threw());
        }
    }

    private static Probe tried(Supplier<Table> maker, Boundary boundary) {
        Probe probe = new Probe(maker);
        try {
            boundary.test().accept(probe);
        } catch (RuntimeException failure) {
            probe.noteFailure(failure);
        }
        return probe;
    }
}
