/**
 * The public face of the document, so that one and the same test can be put to
 * the class, to the Reference and to tables with a fault.
 */
interface Table {
    int insert(int place, int sources, int destinations, int kind);

    int remove(int place);

    int shift(int from, int to);

    int otherwise(int action);

    int decide(int source, int destination, int sort);

    int action(int source, int destination, int sort);

    int decided(int place);

    int having(int action);

    int use(int place);

    int witness(int place);
}
