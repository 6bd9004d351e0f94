import java.io.IOException;
import java.lang.reflect.InvocationTargetException;
import java.lang.reflect.Method;
import java.lang.reflect.Modifier;
import java.nio.file.Files;
import java.nio.file.Path;
import java.util.ArrayList;
import java.util.Arrays;
import java.util.List;
import java.util.Set;
import java.util.TreeSet;
import java.util.regex.Matcher;
import java.util.regex.Pattern;

/** README.md: each call of its example answers what stands behind it, and its table has every call. */
public final class ReadmeTest {
    /** A call, and behind it what it answers or throws (calls that answer nothing have only words there). */
    private static final Pattern EXAMPLE =
        Pattern.compile(" *x\\.(\\w+)\\(([-\\d, ]*)\\); +// ((-?\\d+|\\w+Exception): )?.*");
    private static final Pattern ROW = Pattern.compile("\\| `(\\w+)\\(([\\w, ]*)\\)` \\|.*");
    private static final Due DUE = new Due("ReadmeTest");

    public static void main(String[] args) throws IOException {
        List<String> lines = Files.readAllLines(Path.of("README.md"));
        example(lines);
        table(lines);
        DUE.end();
    }

    private static void example(List<String> lines) {
        ColourForests x = new ColourForests();
        Set<String> called = new TreeSet<>();
        for (String line : lines) {
            Matcher call = EXAMPLE.matcher(line);
            if (call.matches()) {
                String due = call.group(4) == null ? Due.NOTHING : call.group(4);
                DUE.told(line.strip(), answer(x, face(call.group(1)), numbers(call.group(2))), due);
                called.add(call.group(1));
            }
        }
        for (Method method : face()) {
            DUE.holds("a call of " + method.getName() + " in the example", called.contains(method.getName()));
        }
    }

    private static void table(List<String> lines) {
        List<String> rows = new ArrayList<>();
        for (String line : lines) {
            Matcher row = ROW.matcher(line);
            if (row.matches()) {
                rows.add(row.group(1) + " of " + parts(row.group(2)).length);
            }
        }
        DUE.answer("rows of the table", rows.size(), face().size());
        for (Method method : face()) {
            String row = method.getName() + " of " + method.getParameterCount();
            DUE.holds("a row of " + row, rows.contains(row));
        }
    }

    private static List<Method> face() {
        return Arrays.stream(ColourForests.class.getDeclaredMethods())
            .filter(method -> Modifier.isPublic(method.getModifiers())).toList();
    }

    private static Method face(String name) {
        return face().stream().filter(method -> method.getName().equals(name)).findFirst().orElseThrow();
    }

    private static String answer(ColourForests x, Method method, Object[] arguments) {
        try {
            Object answer = method.invoke(x, arguments);
            return answer == null ? Due.NOTHING : answer.toString();
        } catch (InvocationTargetException e) {
            return e.getCause().getClass().getSimpleName();
        } catch (IllegalAccessException e) {
            throw new IllegalStateException(e);
        }
    }

    private static Object[] numbers(String told) {
        return Arrays.stream(parts(told)).map(Integer::valueOf).toArray();
    }

    private static String[] parts(String told) {
        return told.isEmpty() ? new String[0] : told.split(", ");
    }
}
