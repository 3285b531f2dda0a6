import java.io.IOException;
import java.lang.reflect.Method;
import java.lang.reflect.Modifier;
import java.nio.file.Files;
import java.nio.file.Path;
import java.util.Arrays;
import java.util.regex.Matcher;
import java.util.regex.Pattern;

// What README.md shows holds: the example is run as it stands there.
public final class ReadmeTest {
    private static final Pattern MADE = Pattern.compile("BellRows x = new BellRows\\((\\d+)\\);");
    private static final Pattern STEP =
        Pattern.compile("x\\.(\\w+)\\(([-\\d, ]*)\\);\\s+// (-?\\d+)\\b.*");

    private static int wrong = 0;

    private static void tell(String fault) {
        wrong++;
        System.out.println("README.md: " + fault);
    }

    private static String example(String text) {
        int start = text.indexOf("```java\n");
        int end = text.indexOf("```", start + 3);
        if (start < 0 || end < 0) {
            tell("there is no example");
            return "";
        }
        return text.substring(start + "```java\n".length(), end);
    }

    private static Object[] arguments(String list) {
        if (list.isBlank()) {
            return new Object[0];
        }
        return Arrays.stream(list.split(", ")).map(Integer::valueOf).toArray();
    }

    private static int answer(BellRows x, String name, Object[] arguments)
            throws ReflectiveOperationException {
        Class<?>[] types = new Class<?>[arguments.length];
        Arrays.fill(types, int.class);
        return (int) BellRows.class.getMethod(name, types).invoke(x, arguments);
    }

    private static void runExample(String code) throws ReflectiveOperationException {
        BellRows x = null;
        int steps = 0;
        for (String line : code.split("\n")) {
            Matcher made = MADE.matcher(line);
            Matcher step = STEP.matcher(line);
            if (made.matches()) {
                x = new BellRows(Integer.parseInt(made.group(1)));
            } else if (x != null && step.matches()) {
                int got = answer(x, step.group(1), arguments(step.group(2)));
                if (got != Integer.parseInt(step.group(3))) {
                    tell("the answer is " + got + " in: " + line);
                }
                steps++;
            } else {
                tell("what is due can't be read from: " + line);
            }
        }
        if (steps == 0) {
            tell("the example asks nothing");
        }
    }

    private static void namesEachMethod(String text) {
        for (Method one : BellRows.class.getDeclaredMethods()) {
            boolean seen = Modifier.isPublic(one.getModifiers());
            if (seen && !text.contains("| `" + one.getName() + "(")) {
                tell("there is no word on " + one.getName());
            }
        }
    }

    public static void main(String[] args) throws IOException, ReflectiveOperationException {
        String text = Files.readString(Path.of("README.md"));
        runExample(example(text));
        namesEachMethod(text);
        if (!text.contains(".ci/run")) {
            tell("there is no word on how to run the tests");
        }
        System.out.println("README.md, wrong places: " + wrong);
        if (wrong != 0) {
            System.exit(1);
        }
    }
}
