import java.io.IOException;
import java.lang.reflect.Constructor;
import java.lang.reflect.Field;
import java.lang.reflect.Method;
import java.lang.reflect.Modifier;
import java.nio.file.Files;
import java.nio.file.Path;
import java.util.Arrays;
import java.util.Map;
import java.util.Set;
import java.util.TreeMap;
import java.util.regex.Matcher;
import java.util.regex.Pattern;

/**
 * The document's public face, and some of the rules of LANGUAGE.md, by the
 * compiled class and by words in its text. Run from the root of the project.
 */
public final class FaceTest {
    private static final Map<String, Integer> FACE = new TreeMap<>(Map.of(
        "insert", 4, "remove", 1, "shift", 2, "otherwise", 1, "decide", 3,
        "action", 3, "decided", 1, "having", 1, "use", 1, "witness", 1));

    private static final Set<Class<?>> NUMBERS = Set.of(int.class, long.class,
        short.class, byte.class, char.class, boolean.class);

    private static final String FORBIDDEN = "import|package|throw|throws|try|catch|synchronized"
        + "|assert|instanceof|null|float|double|String|Math|Integer|Long|System|Arrays|Object"
        + "|class(?! PolicyTable\\b)|interface|enum|record|var";

    public static void main(String[] args) throws IOException {
        theClass();
        theConstructor();
        theMethods();
        theFields();
        theText();
        theCalls();
        Check.end();
    }

    private static void theClass() {
        Class<?> face = PolicyTable.class;
        Check.holds("the class is public and final",
            Modifier.isPublic(face.getModifiers()) && Modifier.isFinal(face.getModifiers()));
        Check.holds("no package", face.getPackageName().isEmpty());
        Check.holds("no nested class", face.getDeclaredClasses().length == 0);
        Check.holds("no parent of its own", face.getSuperclass() == Object.class
            && face.getInterfaces().length == 0);
    }

    private static void theConstructor() {
        Constructor<?>[] made = PolicyTable.class.getDeclaredConstructors();
        Check.holds("one public constructor without parameters", made.length == 1
            && Modifier.isPublic(made[0].getModifiers()) && made[0].getParameterCount() == 0);
    }

    private static void theMethods() {
        Map<String, Integer> seen = new TreeMap<>();
        for (Method method : PolicyTable.class.getDeclaredMethods()) {
            String name = method.getName();
            Check.holds(name + " has at most seven parameters", method.getParameterCount() <= 7);
            if (Modifier.isPrivate(method.getModifiers())) {
                Check.holds("private " + name + " has a name of its own",
                    !FACE.containsKey(name));
                continue;
            }
            seen.put(name, method.getParameterCount());
            Check.holds(name + " is public and not static",
                Modifier.isPublic(method.getModifiers())
                    && !Modifier.isStatic(method.getModifiers()));
            Check.holds(name + " is over int alone", method.getReturnType() == int.class
                && Arrays.stream(method.getParameterTypes()).allMatch(t -> t == int.class));
        }
        Check.holds("the public methods are those of the document: " + seen, seen.equals(FACE));
    }

    private static void theFields() {
        int held = 0;
        for (Field field : PolicyTable.class.getDeclaredFields()) {
            String name = field.getName();
            Class<?> type = field.getType();
            Check.holds(name + " is private", Modifier.isPrivate(field.getModifiers()));
            if (Modifier.isStatic(field.getModifiers())) {
                Check.holds(name + " is a constant", Modifier.isFinal(field.getModifiers())
                    && (type == int.class || type == long.class));
            } else {
                held++;
                Check.holds(name + " is a number or an array of numbers",
                    NUMBERS.contains(type.isArray() ? type.getComponentType() : type));
            }
        }
        Check.holds("at most forty fields", held <= 40);
    }

    private static void theText() throws IOException {
        String text = Files.readString(Path.of("src/main/java/PolicyTable.java"))
            .replaceAll("(?s)/\\*.*?\\*/", "").replaceAll("//[^\n]*", "");
        Matcher word = Pattern.compile("\\b(" + FORBIDDEN + ")\\b|->|::|\"").matcher(text);
        while (word.find()) {
            Check.holds("the text does without " + word.group(), false);
        }
        Matcher made = Pattern.compile("(?m)^.*\\bnew\\b.*$").matcher(text);
        while (made.find()) {
            Check.holds("arrays are made in the fields' initialisers: " + made.group().trim(),
                made.group().matches("    private final \\w+\\[\\] \\w+ = new \\w+\\[\\w+\\];"));
        }
    }

    /** No call throws, for any arguments in any state; what it answers is checked elsewhere. */
    private static void theCalls() {
        int[] odd = {Integer.MIN_VALUE, Integer.MIN_VALUE + 1, -4096, -33, -2, -1, 0, 1, 3, 4, 11,
            12, 13, 31, 32, 63, 64, 1023, 1024, 4096, 1 << 25, 1 << 30, Integer.MAX_VALUE};
        for (int rules : new int[] {0, 1, 5, 11, 12}) {
            PolicyTable table = new PolicyTable();
            for (int count = 0; count < rules; count++) {
                table.insert(0, 33 * count, 31, 16 + count);
            }
            try {
                for (int first : odd) {
                    for (int second : odd) {
                        callAll(table, first, second, rules);
                    }
                }
                Check.holds("no call throws with " + rules + " rules", true);
            } catch (RuntimeException failure) {
                Check.holds("no call throws with " + rules + " rules: " + failure, false);
            }
        }
    }

    private static void callAll(PolicyTable table, int first, int second, int rules) {
        if (table.insert(first, second, 31, 15) > rules) {
            table.remove(0);
        }
        table.insert(13, first, second, first);
        table.insert(-1, 31, first, second);
        if (table.remove(first) >= 0) {
            table.insert(0, 31, 31, 15);
        }
        table.shift(first, second);
        table.otherwise(first);
        for (int third : new int[] {Integer.MIN_VALUE, -1, 0, 3, 4, Integer.MAX_VALUE}) {
            table.decide(first, second, third);
            table.action(first, second, third);
            table.decide(third, first, second);
            table.action(third, first, second);
        }
        table.decided(first);
        table.having(first);
        table.use(first);
        table.witness(first);
    }
}
