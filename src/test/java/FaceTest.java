import java.lang.reflect.Constructor;
import java.lang.reflect.Field;
import java.lang.reflect.Method;
import java.lang.reflect.Modifier;
import java.util.Arrays;
import java.util.Map;
import java.util.Set;
import java.util.TreeMap;
import java.util.TreeSet;

/** The public face, and the rules of LANGUAGE.md that the compiled class shows. */
public final class FaceTest {
    private static final Set<Class<?>> TYPES = Set.of(
            int.class, long.class, short.class, byte.class, char.class, boolean.class,
            int[].class, long[].class, short[].class, byte[].class, char[].class, boolean[].class);

    private static final Check check = new Check();

    public static void main(String[] args) {
        Class<?> type = RoundPlanner.class;
        check.holds("public final", type.getModifiers() == (Modifier.PUBLIC | Modifier.FINAL));
        check.due("classes inside", type.getDeclaredClasses().length, 0);
        check.holds("extends Object alone",
                type.getSuperclass() == Object.class && type.getInterfaces().length == 0);
        constructors(type);
        constants();
        methods(type);
        fields(type);
        check.end();
    }

    private static void constructors(Class<?> type) {
        Constructor<?>[] all = type.getDeclaredConstructors();
        check.due("constructors", all.length, 1);
        check.due("its parameters", all[0].getParameterCount(), 0);
        check.holds("it is public", Modifier.isPublic(all[0].getModifiers()));
    }

    private static void constants() {
        check.due("BAD_STOP", RoundPlanner.BAD_STOP, -1);
        check.due("BAD_LINE", RoundPlanner.BAD_LINE, -2);
        check.due("BAD_TIME", RoundPlanner.BAD_TIME, -3);
        check.due("FULL", RoundPlanner.FULL, -4);
        check.due("NEVER", RoundPlanner.NEVER, -5);
    }

    private static void methods(Class<?> type) {
        Map<String, Integer> want = new TreeMap<>(Map.of("line", 1, "extend", 3, "trip", 2, "footpath", 3,
                "delay", 2, "earliest", 3, "earliestWith", 4, "rides", 3, "latest", 3, "within", 3));
        Map<String, Integer> open = new TreeMap<>();
        for (Method method : type.getDeclaredMethods()) {
            String name = method.getName();
            check.holds(name + " has types of the rules", typesAllowed(method));
            check.holds(name + " has at most seven parameters", method.getParameterCount() <= 7);
            if (Modifier.isPrivate(method.getModifiers())) {
                check.holds(name + " bears no public name", !want.containsKey(name));
                continue;
            }
            check.holds(name + " is public, of the object, and answers an int",
                    method.getModifiers() == Modifier.PUBLIC && method.getReturnType() == int.class);
            check.holds(name + " takes ints alone",
                    Arrays.stream(method.getParameterTypes()).allMatch(each -> each == int.class));
            check.holds(name + " stands once", open.put(name, method.getParameterCount()) == null);
        }
        check.holds("the public methods are the document's: " + open, open.equals(want));
    }

    private static boolean typesAllowed(Method method) {
        Class<?> answer = method.getReturnType();
        return (answer == void.class || TYPES.contains(answer) && !answer.isArray())
                && Arrays.stream(method.getParameterTypes()).allMatch(TYPES::contains);
    }

    private static void fields(Class<?> type) {
        Set<String> open = new TreeSet<>();
        int held = 0;
        for (Field field : type.getDeclaredFields()) {
            String name = field.getName();
            int modifiers = field.getModifiers();
            check.holds(name + " has a type of the rules", TYPES.contains(field.getType()));
            if (Modifier.isStatic(modifiers)) {
                check.holds(name + " is a constant of int or long", Modifier.isFinal(modifiers)
                        && (field.getType() == int.class || field.getType() == long.class));
            } else {
                held++;
            }
            if (!Modifier.isPrivate(modifiers)) {
                check.holds(name + " is public static", Modifier.isPublic(modifiers) && Modifier.isStatic(modifiers));
                open.add(name);
            }
        }
        check.holds("the public constants are the document's: " + open,
                open.equals(Set.of("BAD_STOP", "BAD_LINE", "BAD_TIME", "FULL", "NEVER")));
        check.holds("at most forty fields", held <= 40);
    }
}
