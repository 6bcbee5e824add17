import java.io.File;
import java.io.IOException;
import java.lang.reflect.InvocationTargetException;
import java.lang.reflect.Method;
import java.nio.file.Files;
import java.nio.file.Path;
import java.util.HashMap;
import java.util.List;
import java.util.Map;
import java.util.TreeSet;
import java.util.regex.Matcher;
import java.util.regex.Pattern;

/** README.md: each call it shows answers what stands behind it; it shows every call of the face and names every test. */
public final class ReadmeTest {
    private static final String MAKES = "CellMapping x = new CellMapping();";
    /** Type and name that the answer gets, or neither; the call; its arguments; the answer, up to a colon. */
    private static final Pattern CALL =
            Pattern.compile("(?:(int|long|boolean) (\\w+) = )?x\\.(\\w+)\\(([^()]*)\\); +// ([^:]+)(?:: .+)?");

    private final Map<String, Integer> names = new HashMap<>();
    private final TreeSet<String> shown = new TreeSet<>();
    private CellMapping x;

    public static void main(String[] args) throws IOException, ReflectiveOperationException {
        List<String> lines = Files.readAllLines(Path.of("README.md"));
        ReadmeTest test = new ReadmeTest();
        test.doAll(lines);
        test.showsWholeFace();
        namesAllTests(String.join("\n", lines));
        Checks.end();
    }

    private void doAll(List<String> lines) throws ReflectiveOperationException {
        boolean inside = false;
        for (String line : lines) {
            if (line.startsWith("```")) {
                inside = line.equals("```java");
            } else if (inside) {
                doLine(line);
            }
        }
    }

    private void doLine(String line) throws ReflectiveOperationException {
        if (line.equals(MAKES)) {
            x = new CellMapping();
            return;
        }
        Matcher parts = CALL.matcher(line);
        Checks.due("a call on an object with its answer: " + line, parts.matches() && x != null, true);
        if (!parts.matches() || x == null) {
            return;
        }
        Method method = methodOf(parts.group(3));
        shown.add(method.getName());
        String got = answer(method, arguments(parts.group(4)));
        Checks.due("README.md: " + parts.group(3) + "(" + parts.group(4) + ")", got, parts.group(5));
        if (parts.group(2) != null) {
            Checks.due("the type in " + line, parts.group(1), method.getReturnType().getName());
            Checks.due("a name that is new in " + line, names.containsKey(parts.group(2)), false);
            names.put(parts.group(2), Integer.valueOf(got));
        }
    }

    private static Method methodOf(String name) throws NoSuchMethodException {
        for (Method method : CellMapping.class.getDeclaredMethods()) {
            if (method.getName().equals(name)) {
                return method;
            }
        }
        throw new NoSuchMethodException(name);
    }

    private String answer(Method method, Object[] arguments) throws IllegalAccessException {
        try {
            Object got = method.invoke(x, arguments);
            return method.getReturnType() == void.class ? "nothing" : String.valueOf(got);
        } catch (InvocationTargetException e) {
            return "throws " + e.getCause().getClass().getSimpleName();
        }
    }

    private Object[] arguments(String text) {
        if (text.isEmpty()) {
            return new Object[0];
        }
        String[] parts = text.split(", ");
        Object[] arguments = new Object[parts.length];
        for (int i = 0; i < parts.length; i++) {
            arguments[i] = sum(parts[i]);
        }
        return arguments;
    }

    private int sum(String text) {
        int sum = 0;
        for (String part : text.split(" \\+ ")) {
            sum += names.containsKey(part) ? names.get(part) : Integer.parseInt(part);
        }
        return sum;
    }

    private void showsWholeFace() {
        TreeSet<String> face = new TreeSet<>();
        for (Method method : CellMapping.class.getMethods()) {
            if (method.getDeclaringClass() == CellMapping.class) {
                face.add(method.getName());
            }
        }
        Checks.due("the calls that README.md shows", shown.toString(), face.toString());
    }

    private static void namesAllTests(String text) {
        for (String file : new File("src/test/java").list()) {
            if (file.endsWith("Test.java")) {
                String name = file.substring(0, file.length() - ".java".length());
                Checks.due("README.md names " + name, text.contains("`" + name + "`"), true);
            }
        }
    }
}
