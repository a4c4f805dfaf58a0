import java.io.IOException;
import java.lang.reflect.Method;
import java.lang.reflect.Modifier;
import java.nio.file.Files;
import java.nio.file.Path;
import java.util.Set;
import java.util.TreeSet;
import java.util.regex.Matcher;
import java.util.regex.Pattern;

/** The calls in README.md, which must give the answers that stand behind them. */
final class ReadmeTests {
    private static final String NEW_OBJECT = "ShardTrails x = new ShardTrails();";
    private static final Pattern CALL =
        Pattern.compile("x\\.(\\w+)\\((.*)\\); +// (-?\\d+|[A-Z_]+)(: .*)?");

    private ReadmeTests() {
    }

    static void run(Path root) throws IOException {
        Check.rule("README.md");
        Set<String> called = new TreeSet<>();
        ShardTrails x = null;
        boolean isJava = false;
        for (String line : Files.readAllLines(root.resolve("README.md"))) {
            if (line.startsWith("```")) {
                isJava = line.equals("```java");
            } else if (isJava && line.equals(NEW_OBJECT)) {
                x = new ShardTrails();
            } else if (isJava) {
                called.add(call(x, line));
            }
        }
        Check.same("methods with an example", called.toString(), face().toString());
    }

    /** Makes the call that a line tells; the name of its method. */
    private static String call(ShardTrails x, String line) {
        Matcher told = CALL.matcher(line);
        if (x == null || !told.matches()) {
            Check.holds("a call with its answer: " + line, false);
            return line;
        }
        try {
            Check.due(line, answer(x, told.group(1), told.group(2)), number(told.group(3)));
        } catch (ReflectiveOperationException e) {
            Check.holds("a call that can be made: " + line + " " + e, false);
        }
        return told.group(1);
    }

    private static int answer(ShardTrails x, String name, String told) throws ReflectiveOperationException {
        String[] parts = told.isEmpty() ? new String[0] : told.split(", ");
        Object[] arguments = new Object[parts.length];
        Class<?>[] types = new Class<?>[parts.length];
        for (int i = 0; i < parts.length; i++) {
            arguments[i] = argument(parts[i]);
            types[i] = type(parts[i]);
        }
        return (Integer) ShardTrails.class.getMethod(name, types).invoke(x, arguments);
    }

    private static Object argument(String told) {
        if (isTruth(told)) {
            return told.equals("true");
        }
        return isSign(told) ? (Object) told.charAt(1) : (Object) Integer.valueOf(told);
    }

    private static Class<?> type(String told) {
        if (isTruth(told)) {
            return boolean.class;
        }
        return isSign(told) ? char.class : int.class;
    }

    private static boolean isTruth(String told) {
        return told.equals("true") || told.equals("false");
    }

    private static boolean isSign(String told) {
        return told.length() == 3 && told.charAt(0) == '\'';
    }

    private static int number(String told) throws ReflectiveOperationException {
        return Character.isLetter(told.charAt(0))
            ? ShardTrails.class.getField(told).getInt(null) : Integer.parseInt(told);
    }

    private static Set<String> face() {
        Set<String> names = new TreeSet<>();
        for (Method method : ShardTrails.class.getDeclaredMethods()) {
            if (Modifier.isPublic(method.getModifiers())) {
                names.add(method.getName());
            }
        }
        return names;
    }
}
