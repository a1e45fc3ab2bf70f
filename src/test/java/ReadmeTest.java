import java.io.IOException;
import java.lang.reflect.InvocationTargetException;
import java.lang.reflect.Method;
import java.nio.file.Files;
import java.nio.file.Path;
import java.util.ArrayList;
import java.util.List;
import java.util.TreeSet;
import java.util.regex.Matcher;
import java.util.regex.Pattern;
import java.util.stream.Stream;

/** The example of README.md answers what is written behind each of its calls, and its list of tests is whole. */
public final class ReadmeTest {
    private static final Pattern NEW_OBJECT = Pattern.compile("ScriptLedger x = new ScriptLedger\\((-?\\d+)\\);");
    private static final Pattern CALL = Pattern.compile("x\\.(\\w+)\\((.*)\\); +// (true|false|-?\\d+)(: .*)?");
    private static final String FENCE = "```";

    private final Due due = new Due();
    private final TreeSet<String> called = new TreeSet<>();
    private ScriptLedger x;

    public static void main(String[] args) throws IOException, ReflectiveOperationException {
        List<String> lines = Files.readAllLines(Path.of("README.md"));
        ReadmeTest test = new ReadmeTest();
        for (String line : codeOf(lines)) {
            test.follow(line);
        }
        test.everyCallIsShown();
        test.testsAreListed(lines);
        test.due.end();
    }

    private static List<String> codeOf(List<String> lines) {
        List<String> code = new ArrayList<>();
        boolean inside = false;
        for (String line : lines) {
            if (line.startsWith(FENCE)) {
                inside = line.equals(FENCE + "java");
            } else if (inside && !line.isBlank()) {
                code.add(line);
            }
        }
        return code;
    }

    private void follow(String line) throws ReflectiveOperationException {
        Matcher object = NEW_OBJECT.matcher(line);
        Matcher call = CALL.matcher(line);
        if (object.matches()) {
            x = new ScriptLedger(Integer.parseInt(object.group(1)));
        } else if (x != null && call.matches()) {
            called.add(call.group(1));
            due.same(line, numberOf(answer(call.group(1), call.group(2))), numberOf(call.group(3)));
        } else {
            due.yes("README.md: can be followed: " + line, false);
        }
    }

    private Object answer(String name, String written) throws ReflectiveOperationException {
        String[] parts = written.isEmpty() ? new String[0] : written.split(", ");
        Method method = methodOf(name);
        Class<?>[] types = method.getParameterTypes();
        Object[] arguments = new Object[parts.length];
        for (int i = 0; i < parts.length; i++) {
            arguments[i] = types[i] == long.class ? (Object) Long.decode(parts[i].replace("L", ""))
                : (Object) Integer.decode(parts[i]);
        }
        try {
            return method.invoke(x, arguments);
        } catch (InvocationTargetException thrown) {
            return "an exception";
        }
    }

    private static Method methodOf(String name) throws NoSuchMethodException {
        for (Method method : ScriptLedger.class.getDeclaredMethods()) {
            if (method.getName().equals(name)) {
                return method;
            }
        }
        throw new NoSuchMethodException(name);
    }

    private static long numberOf(Object answer) {
        switch (String.valueOf(answer)) {
            case "true":
                return 1;
            case "false":
                return 0;
            case "an exception":
                return Long.MIN_VALUE;
            default:
                return Long.parseLong(String.valueOf(answer));
        }
    }

    /** All of the face but begin, which answers nothing. */
    private void everyCallIsShown() {
        for (Method method : ScriptLedger.class.getMethods()) {
            if (method.getDeclaringClass() == ScriptLedger.class && method.getReturnType() != void.class) {
                due.yes("README.md shows " + method.getName(), called.contains(method.getName()));
            }
        }
    }

    private void testsAreListed(List<String> lines) throws IOException {
        String rows = String.join("\n", lines.stream().filter(line -> line.startsWith("|")).toList());
        try (Stream<Path> files = Files.list(Path.of("src/test/java"))) {
            for (Path file : files.toList()) {
                String name = file.getFileName().toString().replace(".java", "");
                if (name.endsWith("Test")) {
                    due.yes("README.md lists " + name, Pattern.compile("\\b" + name + "\\b").matcher(rows).find());
                }
            }
        }
    }
}
