import java.io.IOException;
import java.lang.reflect.Field;
import java.lang.reflect.Method;
import java.lang.reflect.Modifier;
import java.nio.file.Files;
import java.nio.file.Path;
import java.util.ArrayDeque;
import java.util.ArrayList;
import java.util.Deque;
import java.util.HashSet;
import java.util.List;
import java.util.Map;
import java.util.Set;
import java.util.TreeMap;
import java.util.TreeSet;
import java.util.regex.Matcher;
import java.util.regex.Pattern;

// The rules of LANGUAGE.md that can be seen in the class's text or in its members. That a loop
// ends and an index fits is not seen here; the other tests run it.
public final class RulesTest {
    private static final String PROGRAM = "src/main/java/BellRows.java";
    private static final Set<Class<?>> TYPES = Set.of(int.class, long.class, short.class,
        byte.class, char.class, boolean.class);
    private static final Set<String> NO_CALLS = Set.of("if", "for", "while", "switch", "return");
    private static final Pattern HEAD =
        Pattern.compile("    (?:public|private) .*?(\\w+)\\((.*)\\) \\{");
    private static final Pattern CALL_OR_PARENTHESIS = Pattern.compile("(\\w+)\\(|\\(|\\)");

    private static int wrong = 0;

    private static void tell(int rule, String fault) {
        wrong++;
        System.out.println("rule " + rule + ": " + fault);
    }

    private static void noneOf(int rule, String text, String pattern) {
        Matcher found = Pattern.compile(pattern).matcher(text);
        while (found.find()) {
            tell(rule, "'" + found.group() + "' stands in the program");
        }
    }

    private static void words(String text) {
        noneOf(1, text, "\\b(package|interface|enum|record|protected)\\b");
        noneOf(1, text.replaceFirst("public final class BellRows ", ""), "\\bclass\\b");
        noneOf(2, text, "\\b(float|double)\\b|\"|\\[\\s*\\]\\s*\\[");
        noneOf(3, text, "\\b(?!BellRows\\b)[A-Z]\\w*[a-z]\\w*");
        noneOf(3, text, "\\b(import|equals|hashCode|toString|getClass|clone|wait|notify\\w*)\\b");
        noneOf(4, text, "\\bnull\\b");
        noneOf(5, text, "\\bstatic\\s*\\{");
        noneOf(6, text, "\\b(throws?|try|catch|synchronized|assert|instanceof)\\b|->|::");
    }

    // Arrays are made in the fields' initialisers alone, which is the rule's easiest way.
    private static void arrays(String text) {
        String made = "    private final (\\w+)\\[\\] \\w+ = new \\1\\[[A-Z_]+\\];";
        for (String line : text.split("\n")) {
            if (line.matches(".*\\bnew\\b.*") && !line.matches(made)) {
                tell(4, "an array or object is made in: " + line.strip());
            }
        }
    }

    private static void type(String what, Class<?> one) {
        Class<?> base = one.isArray() ? one.getComponentType() : one;
        if (!TYPES.contains(base)) {
            tell(2, what + " has the type " + one.getName());
        }
    }

    private static void fields() {
        int count = 0;
        for (Field one : BellRows.class.getDeclaredFields()) {
            type(one.getName(), one.getType());
            if (!Modifier.isStatic(one.getModifiers())) {
                count++;
            } else if (!Modifier.isFinal(one.getModifiers())
                    || one.getType() != int.class && one.getType() != long.class) {
                tell(5, one.getName() + " is static");
            }
        }
        if (count > 40) {
            tell(10, "there are " + count + " fields");
        }
    }

    private static void methods() {
        Set<String> names = new HashSet<>();
        for (Method one : BellRows.class.getDeclaredMethods()) {
            if (!names.add(one.getName())) {
                tell(1, "two methods bear the name " + one.getName());
            }
            if (one.getReturnType().isArray()) {
                tell(4, one.getName() + " answers an array");
            } else if (one.getReturnType() != void.class) {
                type(one.getName(), one.getReturnType());
            }
            for (Class<?> parameter : one.getParameterTypes()) {
                type("a parameter of " + one.getName(), parameter);
            }
            if (one.getParameterCount() > 7) {
                tell(10, one.getName() + " has " + one.getParameterCount() + " parameters");
            }
        }
        if (BellRows.class.getDeclaredClasses().length != 0) {
            tell(1, "there is a nested class");
        }
    }

    private static Map<String, List<String>> bodies(String text) {
        Map<String, List<String>> found = new TreeMap<>();
        String[] lines = text.split("\n");
        for (int i = 0; i < lines.length; i++) {
            Matcher head = HEAD.matcher(lines[i]);
            if (head.matches()) {
                int end = i;
                while (end + 1 < lines.length && !lines[end].equals("    }")) {
                    end++;
                }
                found.put(head.group(1), List.of(lines).subList(i + 1, end));
            }
        }
        return found;
    }

    // Which methods a body calls, and that none is called inside the arguments of another call.
    private static Set<String> callsOf(String name, List<String> body) {
        Set<String> called = new TreeSet<>();
        Deque<Boolean> open = new ArrayDeque<>();
        Matcher next = CALL_OR_PARENTHESIS.matcher(String.join("\n", body));
        while (next.find()) {
            boolean call = next.group(1) != null && !NO_CALLS.contains(next.group(1));
            if (call && open.contains(true)) {
                tell(10, name + " calls " + next.group(1) + " inside the arguments of a call");
            }
            if (call) {
                called.add(next.group(1));
            }
            if (next.group().equals(")")) {
                open.pop();
            } else {
                open.push(call);
            }
        }
        return called;
    }

    private static int depth(Map<String, Set<String>> calls, String name, List<String> above) {
        if (above.contains(name)) {
            tell(8, name + " is reached from itself through " + above);
            return 0;
        }
        List<String> path = new ArrayList<>(above);
        path.add(name);
        int deepest = 0;
        for (String called : calls.getOrDefault(name, Set.of())) {
            deepest = Math.max(deepest, depth(calls, called, path));
        }
        return deepest + 1;
    }

    private static void callsAndLengths(String text) {
        Map<String, List<String>> bodies = bodies(text);
        Map<String, Set<String>> calls = new TreeMap<>();
        bodies.forEach((name, body) -> calls.put(name, callsOf(name, body)));
        for (Method one : BellRows.class.getDeclaredMethods()) {
            if (!bodies.containsKey(one.getName())) {
                tell(10, "the body of " + one.getName() + " was not found");
            }
        }
        bodies.forEach((name, body) -> {
            if (body.size() > 60) {
                tell(10, name + " has " + body.size() + " lines");
            }
            if (depth(calls, name, List.of()) > 6) {
                tell(10, "calls go more than six deep from " + name);
            }
        });
    }

    public static void main(String[] args) throws IOException {
        String text = Files.readString(Path.of(PROGRAM))
            .replaceAll("(?s)/\\*.*?\\*/", "").replaceAll("//[^\n]*", "");
        words(text);
        arrays(text);
        fields();
        methods();
        callsAndLengths(text);
        System.out.println("the rules of LANGUAGE.md, broken: " + wrong);
        if (wrong != 0) {
            System.exit(1);
        }
    }
}
