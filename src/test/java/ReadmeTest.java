import java.io.IOException;
import java.lang.reflect.InvocationTargetException;
import java.lang.reflect.Method;
import java.nio.file.Files;
import java.nio.file.Path;
import java.util.ArrayList;
import java.util.List;
import java.util.Set;
import java.util.TreeSet;
import java.util.regex.Matcher;
import java.util.regex.Pattern;

/** README.md's example: each call answers what is written behind it, and no call is left out. */
public final class ReadmeTest {
    private static final Pattern MADE = Pattern.compile("FlexCycles x = new FlexCycles\\((.*)\\);");
    private static final Pattern CALL = Pattern.compile("x\\.(\\w+)\\((.*)\\); +// ([^:]+)(: .*)?");
    private static final Check check = new Check();

    public static void main(String[] args) throws IOException, ReflectiveOperationException {
        List<String> lines = example();
        Matcher made = MADE.matcher(lines.isEmpty() ? "" : lines.get(0));
        check.due("the example begins with a new object", made.matches(), true);
        if (made.matches()) {
            String[] sizes = made.group(1).split(", ");
            calls(new FlexCycles(number(sizes[0]), number(sizes[1]), number(sizes[2])), lines);
        }
        check.end();
    }

    private static List<String> example() throws IOException {
        List<String> found = new ArrayList<>();
        boolean inside = false;
        for (String line : Files.readAllLines(Path.of("README.md"))) {
            if (line.startsWith("```")) {
                inside = line.equals("```java");
            } else if (inside) {
                found.add(line);
            }
        }
        return found;
    }

    private static void calls(FlexCycles x, List<String> lines) throws ReflectiveOperationException {
        Set<String> shown = new TreeSet<>();
        for (String line : lines.subList(1, lines.size())) {
            Matcher call = CALL.matcher(line);
            check.due("'" + line + "' is a call with its answer", call.matches(), true);
            if (call.matches()) {
                Method method = find(call.group(1));
                String got = answer(x, method, call.group(2).split(", "));
                check.due("'" + line + "' answers " + got + ": right", got.equals(call.group(3)), true);
                shown.add(method.getName());
            }
        }
        for (Method method : FlexCycles.class.getMethods()) {
            boolean own = method.getDeclaringClass() == FlexCycles.class;
            check.due(method.getName() + " is shown", !own || shown.contains(method.getName()), true);
        }
    }

    private static Method find(String name) throws NoSuchMethodException {
        for (Method method : FlexCycles.class.getMethods()) {
            if (method.getName().equals(name)) {
                return method;
            }
        }
        throw new NoSuchMethodException(name);
    }

    private static String answer(FlexCycles x, Method method, String[] written)
            throws IllegalAccessException {
        Object[] values = new Object[written.length];
        for (int i = 0; i < written.length; i++) {
            boolean truth = method.getParameterTypes()[i] == boolean.class;
            values[i] = truth ? (Object) written[i].equals("true") : (Object) number(written[i]);
        }
        try {
            return String.valueOf(method.invoke(x, values));
        } catch (InvocationTargetException e) {
            return "throws " + e.getCause().getClass().getSimpleName();
        }
    }

    private static int number(String written) {
        return Integer.parseInt(written);
    }
}
