/** The class itself, behind the interface of the tests. */
final class RealTable implements Table {
    private final PolicyTable table = new PolicyTable();

    @Override
    public int insert(int place, int sources, int destinations, int kind) {
        return table.insert(place, sources, destinations, kind);
    }

    @Override
    public int remove(int place) {
        return table.remove(place);
    }

    @Override
    public int shift(int from, int to) {
        return table.shift(from, to);
    }

    @Override
    public int otherwise(int action) {
        return table.otherwise(action);
    }

    @Override
    public int decide(int source, int destination, int sort) {
        return table.decide(source, destination, sort);
    }

    @Override
    public int action(int source, int destination, int sort) {
        return table.action(source, destination, sort);
    }

    @Override
    public int decided(int place) {
        return table.decided(place);
    }

    @Override
    public int having(int action) {
        return table.having(action);
    }

    @Override
    public int use(int place) {
        return table.use(place);
    }

    @Override
    public int witness(int place) {
        return table.witness(place);
    }
}
