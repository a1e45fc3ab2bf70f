import java.io.IOException;
import java.lang.reflect.Method;
import java.nio.file.Files;
import java.nio.file.Path;
import java.util.TreeSet;
import java.util.regex.Matcher;
import java.util.regex.Pattern;

/** Every test that src/test/BOUNDARIES.md names is there, and every promise has one. */
public final class BoundariesTest {
    private static final int PROMISES = 19;

    public static void main(String[] args) throws IOException {
        Due due = new Due();
        TreeSet<Integer> promises = new TreeSet<>();
        Pattern test = Pattern.compile("`(\\w+Test)\\.(\\w+)`");
        for (String line : Files.readAllLines(Path.of("src/test/BOUNDARIES.md"))) {
            Matcher named = test.matcher(line);
            while (named.find()) {
                due.yes(named.group() + " is there", isThere(named.group(1), named.group(2)));
                String first = line.split("\\|")[1].strip();
                if (first.matches("\\d+")) {
                    promises.add(Integer.parseInt(first));
                }
            }
        }
        for (int promise = 1; promise <= PROMISES; promise++) {
            due.yes("promise " + promise + " has a test", promises.contains(promise));
        }
        due.end();
    }

    private static boolean isThere(String name, String method) {
        try {
            for (Method each : Class.forName(name).getDeclaredMethods()) {
                if (each.getName().equals(method)) {
                    return true;
                }
            }
            return false;
        } catch (ClassNotFoundException missing) {
            return false;
        }
    }
}
