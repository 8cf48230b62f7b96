import java.lang.reflect.InvocationTargetException;
import java.lang.reflect.Method;
import java.lang.reflect.Proxy;
import java.util.function.BiConsumer;
import java.util.function.Consumer;
import java.util.function.Supplier;

/** Makes tables that are right but for one fault in one call. */
final class Faults {
    /** What is answered in place of the right answer. */
    interface Answer {
        int to(int[] arguments, int right, Reference table);
    }

    private interface Handler {
        int handle(Reference table, Method method, int[] arguments) throws Throwable;
    }

    private Faults() {
    }

    /** The call takes other arguments than it was given; the change may look at the table. */
    static Supplier<Table> takes(String call, BiConsumer<int[], Reference> change) {
        return faulty((table, method, arguments) -> {
            if (method.getName().equals(call)) {
                change.accept(arguments, table);
            }
            return invoke(table, method, arguments);
        });
    }

    /** The call does the right thing, but answers something else. */
    static Supplier<Table> answers(String call, Answer answer) {
        return faulty((table, method, arguments) -> {
            int right = invoke(table, method, arguments);
            return method.getName().equals(call) ? answer.to(arguments, right, table) : right;
        });
    }

    /** The call answers -1 as it should, but changes the table nevertheless. */
    static Supplier<Table> changesThough(String call, Consumer<Reference> change) {
        return faulty((table, method, arguments) -> {
            int right = invoke(table, method, arguments);
            if (method.getName().equals(call) && right == -1) {
                change.accept(table);
            }
            return right;
        });
    }

    /** A new table is not as it should be. */
    static Supplier<Table> begins(Consumer<Reference> change) {
        return () -> {
            Reference table = new Reference();
            change.accept(table);
            return table;
        };
    }

    /** All calls but the first ones are answered with 7. */
    static Supplier<Table> tiresAfter(int calls) {
        return () -> {
            int[] made = {0};
            return faulty((table, method, arguments) -> {
                int right = invoke(table, method, arguments);
                return ++made[0] > calls ? 7 : right;
            }).get();
        };
    }

    private static Supplier<Table> faulty(Handler handler) {
        return () -> {
            Reference table = new Reference();
            return (Table) Proxy.newProxyInstance(Table.class.getClassLoader(),
                new Class<?>[] {Table.class},
                (proxy, method, given) -> {
                    int[] arguments = new int[given.length];
                    for (int at = 0; at < given.length; at++) {
                        arguments[at] = (int) given[at];
                    }
                    return handler.handle(table, method, arguments);
                });
        };
    }

    private static int invoke(Table table, Method method, int[] arguments) throws Throwable {
        Object[] given = new Object[arguments.length];
        for (int at = 0; at < given.length; at++) {
            given[at] = arguments[at];
        }
        try {
            return (int) method.invoke(table, given);
        } catch (InvocationTargetException failure) {
            throw failure.getCause();
        }
    }
}
