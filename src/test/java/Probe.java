import java.util.ArrayList;
import java.util.List;
import java.util.function.Supplier;

/** Hands new tables to a test, and keeps what they answered wrongly. */
final class Probe {
    private final Supplier<Table> maker;
    private final List<String> wrong = new ArrayList<>();
    private int asked = 0;
    private boolean threw = false;

    Probe(Supplier<Table> maker) {
        this.maker = maker;
    }

    Tried fresh() {
        return new Tried(this, maker.get());
    }

    /** A new table with the stripes of the sources 0, 1, 2, .., and 2 as its default action. */
    Tried stripes(int count) {
        Tried tried = fresh();
        tried.due(0).otherwise(2);
        for (int place = 0; place < count; place++) {
            tried.putStripe(place, place, place + 1);
        }
        return tried;
    }

    void noteAnswer(String call, int got, int want) {
        asked++;
        if (got != want) {
            wrong.add(call + " answered " + got + ", due is " + want);
        }
    }

    void noteFailure(Throwable failure) {
        threw = true;
        wrong.add("threw " + failure + ", because of " + failure.getCause());
    }

    boolean threw() {
        return threw;
    }

    int asked() {
        return asked;
    }

    List<String> wrong() {
        return wrong;
    }
}
