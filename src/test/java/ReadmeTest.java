import java.lang.reflect.Method;
import java.nio.file.Files;
import java.nio.file.Path;
import java.util.Arrays;
import java.util.Set;
import java.util.TreeSet;
import java.util.regex.Matcher;
import java.util.regex.Pattern;

/** The example in README.md: each call's answer is the one that stands behind it. */
public final class ReadmeTest {
    private static final Pattern CALL = Pattern.compile("planner\\.(\\w+)\\(([-0-9, ]*)\\);\\s+// (-?\\d+|[A-Z_]+):.*");

    private static final Check check = new Check();

    public static void main(String[] args) throws Exception {
        RoundPlanner planner = new RoundPlanner();
        Set<String> shown = new TreeSet<>();
        for (String line : Files.readAllLines(Path.of("README.md"))) {
            if (!line.startsWith("planner.")) {
                continue;
            }
            Matcher call = CALL.matcher(line);
            check.holds("a call and its answer: " + line, call.matches());
            if (call.matches()) {
                shown.add(call.group(1));
                check.due(line, answer(planner, call.group(1), call.group(2)), meant(call.group(3)));
            }
        }
        for (Method method : RoundPlanner.class.getMethods()) {
            if (method.getDeclaringClass() == RoundPlanner.class) {
                check.holds("the example shows " + method.getName(), shown.contains(method.getName()));
            }
        }
        check.end();
    }

    private static int answer(RoundPlanner planner, String name, String written) throws Exception {
        Object[] arguments = Arrays.stream(written.split(", ")).map(Integer::valueOf).toArray();
        Class<?>[] types = new Class<?>[arguments.length];
        Arrays.fill(types, int.class);
        return (int) RoundPlanner.class.getMethod(name, types).invoke(planner, arguments);
    }

    private static int meant(String answer) throws Exception {
        boolean named = Character.isUpperCase(answer.charAt(0));
        return named ? RoundPlanner.class.getField(answer).getInt(null) : Integer.parseInt(answer);
    }
}
