import java.io.IOException;
import java.lang.reflect.InvocationTargetException;
import java.lang.reflect.Method;
import java.lang.reflect.Modifier;
import java.nio.file.Files;
import java.nio.file.Path;
import java.util.ArrayList;
import java.util.List;
import java.util.Set;
import java.util.TreeSet;
import java.util.regex.Matcher;
import java.util.regex.Pattern;

/** What README.md shows of the class is what the class answers: each call of its examples, with its answer. */
public final class ReadmeTest {
    private static final Path README = Path.of("README.md");
    private static final Pattern CALL =
        Pattern.compile("history\\.(\\w+)\\(([^)]*)\\); +// (throws \\w+|[-\\w]+)(?:: .+)?");

    private static final Checks CHECKS = new Checks();

    private final Set<String> called = new TreeSet<>();
    private DeltaHistory history;

    public static void main(String[] args) throws IOException {
        List<String> lines = Files.readAllLines(README);
        ReadmeTest test = new ReadmeTest();
        for (String line : examples(lines)) {
            test.follow(line);
        }
        Set<String> face = face();
        CHECKS.due("the calls of the examples", face, () -> test.called);
        for (String name : face) {
            CHECKS.due("how many rows tell of " + name, 1L,
                () -> lines.stream().filter(line -> line.startsWith("| `" + name + "(")).count());
        }
        CHECKS.end();
    }

    /** The lines of the blocks that are marked as Java. */
    private static List<String> examples(List<String> lines) {
        List<String> inside = new ArrayList<>();
        boolean isInside = false;
        for (String line : lines) {
            if (line.startsWith("```")) {
                isInside = line.equals("```java");
            } else if (isInside && !line.isBlank()) {
                inside.add(line);
            }
        }
        return inside;
    }

    private static Set<String> face() {
        Set<String> names = new TreeSet<>();
        for (Method method : DeltaHistory.class.getDeclaredMethods()) {
            if (Modifier.isPublic(method.getModifiers())) {
                names.add(method.getName());
            }
        }
        return names;
    }

    private void follow(String line) {
        if (line.equals("DeltaHistory history = new DeltaHistory();")) {
            history = new DeltaHistory();
            return;
        }
        Matcher call = CALL.matcher(line);
        if (!call.matches()) {
            CHECKS.due("a line that is no call with its answer: " + line, "a call", () -> "none");
            return;
        }
        called.add(call.group(1));
        CHECKS.due(line, meant(call.group(3)), () -> made(call.group(1), call.group(2)));
    }

    /** The answer as the checks write it. */
    private static String meant(String told) {
        switch (told) {
            case "NONE":
                return "-1";
            case "CRASHED":
                return "-2";
            case "nothing":
                return "null";
            default:
                return told.replace(' ', '.');
        }
    }

    private Object made(String name, String arguments) throws Exception {
        String[] told = arguments.isEmpty() ? new String[0] : arguments.split(", ");
        Object[] values = new Object[told.length];
        for (int k = 0; k < told.length; k++) {
            values[k] = value(told[k]);
        }
        for (Method method : DeltaHistory.class.getMethods()) {
            if (method.getName().equals(name) && method.getParameterCount() == values.length) {
                return answer(method, values);
            }
        }
        throw new NoSuchMethodException(name);
    }

    private static Object value(String told) {
        if (told.equals("true") || told.equals("false")) {
            return Boolean.valueOf(told);
        }
        return told.equals("DeltaHistory.NONE") ? Integer.valueOf(DeltaHistory.NONE) : Integer.decode(told);
    }

    private Object answer(Method method, Object[] values) throws Exception {
        try {
            return method.invoke(history, values);
        } catch (InvocationTargetException e) {
            throw (Exception) e.getCause();
        }
    }
}
