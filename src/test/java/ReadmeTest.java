import java.io.IOException;
import java.lang.reflect.Method;
import java.lang.reflect.Modifier;
import java.nio.file.Files;
import java.nio.file.Path;
import java.util.regex.Matcher;
import java.util.regex.Pattern;

/** README.md's example answers what it says, and its table has every call. */
public final class ReadmeTest {
    private static final Pattern CALL = Pattern.compile("c\\.(\\w+)\\(([-0-9, ]*)\\); +// (-?\\d+)(:.*)?");
    private static final String MADE = "CompassBias c = new CompassBias();";

    private static int wrong = 0;
    private static int answers = 0;

    private static void fault(String text) {
        wrong++;
        System.out.println(text);
    }

    private static Method methodOf(String name) {
        for (Method m : CompassBias.class.getDeclaredMethods()) {
            if (m.getName().equals(name) && Modifier.isPublic(m.getModifiers())) {
                return m;
            }
        }
        return null;
    }

    private static Object[] numbersOf(String text) {
        if (text.isEmpty()) {
            return new Object[0];
        }
        String[] parts = text.split(", ");
        Object[] numbers = new Object[parts.length];
        for (int i = 0; i < parts.length; i++) {
            numbers[i] = Integer.valueOf(parts[i]);
        }
        return numbers;
    }

    private static void runLine(CompassBias c, String line) throws ReflectiveOperationException {
        Matcher call = CALL.matcher(line);
        Method method = call.matches() ? methodOf(call.group(1)) : null;
        if (method == null) {
            fault("no call with its answer: " + line);
            return;
        }
        long got = ((Number) method.invoke(c, numbersOf(call.group(2)))).longValue();
        answers++;
        if (got != Long.parseLong(call.group(3))) {
            fault(line + " answered " + got);
        }
    }

    private static void runExample(String readme) throws ReflectiveOperationException {
        Matcher block = Pattern.compile("(?s)```java\n(.*?)\n```").matcher(readme);
        if (!block.find()) {
            fault("README.md has no example");
            return;
        }
        String[] lines = block.group(1).split("\n");
        if (!lines[0].equals(MADE)) {
            fault("the example doesn't begin with a new object");
        }
        CompassBias c = new CompassBias();
        for (int i = 1; i < lines.length; i++) {
            runLine(c, lines[i]);
        }
    }

    private static void checkTable(String readme) {
        for (Method m : CompassBias.class.getDeclaredMethods()) {
            if (Modifier.isPublic(m.getModifiers())) {
                Matcher row = Pattern.compile("\n\\| `" + m.getName() + "\\(([^)]*)\\)` \\|").matcher(readme);
                boolean isThere = row.find();
                int many = !isThere || row.group(1).isEmpty() ? 0 : row.group(1).split(", ").length;
                if (!isThere || many != m.getParameterCount()) {
                    fault("the table has no row of " + m.getName());
                }
            }
        }
    }

    public static void main(String[] args) throws IOException, ReflectiveOperationException {
        String readme = Files.readString(Path.of("README.md"));
        runExample(readme);
        checkTable(readme);
        System.out.println("README.md: " + answers + " answers, " + wrong + " faults");
        if (wrong > 0) {
            System.exit(1);
        }
    }
}
