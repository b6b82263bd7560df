import java.io.IOException;
import java.lang.reflect.InvocationTargetException;
import java.lang.reflect.Method;
import java.nio.file.Files;
import java.nio.file.Path;
import java.util.List;
import java.util.regex.Matcher;
import java.util.regex.Pattern;

/** What README.md says is so: its examples answer as they tell, and it names all calls and all tests. */
public final class ReadmeTest {
    private static final Pattern MADE = Pattern.compile("OnceCalls x = new OnceCalls\\((\\d+), (\\d+)\\);.*");
    private static final Pattern CALLED = Pattern.compile("x\\.(\\w+)\\(([^)]*)\\);\\s*// (-?\\d+)(:.*)?");
    private static final Path TESTS = Path.of("src/test/java");

    public static void main(String[] args) throws IOException {
        Due due = new Due("ReadmeTest");
        List<String> lines = Files.readAllLines(Path.of("README.md"));
        due.is("examples", examples(due, lines), 2);
        String text = String.join("\n", lines);
        namesAllCalls(due, text);
        namesAllTests(due, text);
        due.end();
    }

    private static int examples(Due due, List<String> lines) {
        OnceCalls x = null;
        int examples = 0;
        boolean inside = false;
        for (String line : lines) {
            if (line.startsWith("```")) {
                inside = line.equals("```java");
                examples += inside ? 1 : 0;
                x = null;
            } else if (inside) {
                x = play(due, x, line);
            }
        }
        return examples;
    }

    private static OnceCalls play(Due due, OnceCalls x, String line) {
        Matcher made = MADE.matcher(line);
        if (made.matches()) {
            return new OnceCalls(Integer.parseInt(made.group(1)), Integer.parseInt(made.group(2)));
        }
        Matcher called = CALLED.matcher(line);
        boolean canBePlayed = x != null && called.matches();
        due.is("can be played: " + line, canBePlayed ? 1 : 0, 1);
        if (canBePlayed) {
            due.is(line, ask(x, called.group(1), called.group(2).split(", ")), Long.parseLong(called.group(3)));
        }
        return x;
    }

    private static long ask(OnceCalls x, String name, String[] arguments) {
        Method method = callNamed(name);
        if (method == null || method.getParameterCount() != arguments.length) {
            throw new IllegalArgumentException("no call " + name + " with " + arguments.length + " arguments");
        }
        Object[] given = new Object[arguments.length];
        for (int i = 0; i < given.length; i++) {
            given[i] = argument(method.getParameterTypes()[i], arguments[i]);
        }
        try {
            return ((Number) method.invoke(x, given)).longValue();
        } catch (IllegalAccessException | InvocationTargetException failed) {
            throw new IllegalStateException(name, failed);
        }
    }

    private static Object argument(Class<?> type, String text) {
        if (type == long.class) {
            return Long.valueOf(text.replace("L", ""));
        }
        return Integer.valueOf(text);
    }

    private static Method callNamed(String name) {
        for (Method method : OnceCalls.class.getMethods()) {
            if (method.getDeclaringClass() == OnceCalls.class && method.getName().equals(name)) {
                return method;
            }
        }
        return null;
    }

    private static void namesAllCalls(Due due, String text) {
        for (Method method : OnceCalls.class.getMethods()) {
            if (method.getDeclaringClass() == OnceCalls.class) {
                Matcher named = Pattern.compile("`" + method.getName() + "\\(([^)]*)\\)`").matcher(text);
                int arguments = named.find() ? named.group(1).split(", ").length : 0;
                due.is("arguments of " + method.getName() + " in README.md", arguments, method.getParameterCount());
            }
        }
    }

    private static void namesAllTests(Due due, String text) throws IOException {
        try (var files = Files.list(TESTS)) {
            files.map(file -> file.getFileName().toString().replace(".java", ""))
                .filter(name -> name.endsWith("Test"))
                .forEach(name -> due.is("README.md names " + name, text.contains("`" + name + "`") ? 1 : 0, 1));
        }
        Matcher named = Pattern.compile("`(\\w+Test)`").matcher(text);
        while (named.find()) {
            due.is(named.group(1) + " is there", Files.exists(TESTS.resolve(named.group(1) + ".java")) ? 1 : 0, 1);
        }
    }
}
