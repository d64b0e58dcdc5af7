import java.io.IOException;
import java.lang.reflect.InvocationTargetException;
import java.lang.reflect.Method;
import java.lang.reflect.Modifier;
import java.nio.file.Files;
import java.nio.file.Path;
import java.util.Arrays;
import java.util.Set;
import java.util.TreeSet;
import java.util.regex.Matcher;
import java.util.regex.Pattern;

/** That README.md's example answers what it says, and that its table names every call. */
public final class ReadmeTest {
    private static final Pattern EXAMPLE = Pattern.compile("(?s)```java\n(.*?)```");
    private static final Pattern CALL =
            Pattern.compile("desk\\.(\\w+)\\(([-\\d, ]*)\\); +// ([-\\w]+)(:.*)?");
    private static final Pattern ROW = Pattern.compile("(?m)^\\| `(\\w+)\\(([\\w, ]*)\\)` \\|");

    private static int wrong = 0;

    public static void main(String[] args) throws IOException {
        String readme = Files.readString(Path.of("README.md"));
        int asked = exampleAnswersWhatItSays(readme);
        tableNamesEveryCall(readme);
        System.out.println(asked + " calls of README.md, " + wrong + " faults");
        if (wrong != 0 || asked == 0) {
            System.exit(1);
        }
    }

    private static void fail(String fault) {
        wrong++;
        System.out.println("README.md: " + fault);
    }

    private static int exampleAnswersWhatItSays(String readme) {
        Matcher example = EXAMPLE.matcher(readme);
        if (!example.find()) {
            return 0;
        }
        PointDesk desk = new PointDesk();
        int asked = 0;
        for (String line : example.group(1).split("\n")) {
            Matcher call = CALL.matcher(line);
            if (call.matches()) {
                String got = answer(desk, call.group(1), numbers(call.group(2)));
                if (!got.equals(call.group(3))) {
                    fail(line + " answered " + got);
                }
                asked++;
            } else if (!line.isEmpty() && !line.equals("PointDesk desk = new PointDesk();")) {
                fail("no call with its answer: " + line);
            }
        }
        return asked;
    }

    private static Object[] numbers(String listed) {
        return listed.isEmpty()
                ? new Object[0]
                : Arrays.stream(listed.split(", ")).map(Integer::valueOf).toArray();
    }

    private static String answer(PointDesk desk, String name, Object[] numbers) {
        Class<?>[] types = new Class<?>[numbers.length];
        Arrays.fill(types, int.class);
        try {
            Object got = PointDesk.class.getMethod(name, types).invoke(desk, numbers);
            return got == null ? "void" : got.toString();
        } catch (InvocationTargetException e) {
            return e.getCause().getClass().getSimpleName();
        } catch (ReflectiveOperationException e) {
            return "nothing, as there is no such call";
        }
    }

    private static void tableNamesEveryCall(String readme) {
        Set<String> due = new TreeSet<>();
        for (Method method : PointDesk.class.getDeclaredMethods()) {
            if (Modifier.isPublic(method.getModifiers())) {
                due.add(method.getName() + " of " + method.getParameterCount());
            }
        }
        Set<String> named = new TreeSet<>();
        Matcher row = ROW.matcher(readme);
        while (row.find()) {
            int parameters = row.group(2).isEmpty() ? 0 : row.group(2).split(", ").length;
            named.add(row.group(1) + " of " + parameters);
        }
        if (!named.equals(due)) {
            fail("the table names " + named + ", due are " + due);
        }
    }
}
