import java.lang.reflect.InvocationTargetException;
import java.lang.reflect.Method;
import java.lang.reflect.Modifier;
import java.nio.file.Files;
import java.nio.file.Path;
import java.util.Arrays;
import java.util.List;
import java.util.Set;
import java.util.TreeSet;
import java.util.regex.Matcher;
import java.util.regex.Pattern;

/** What README.md says of the class's use is what the class does. */
public final class ReadmeTest {
    private static final Checks CHECKS = new Checks("ReadmeTest");
    private static final Pattern ROW =
            Pattern.compile("x\\.(\\w+)\\(([^)]*)\\); +// (-?\\d+|throws \\w+)(:.*)?");

    public static void main(String[] args) throws Exception {
        List<String> lines = Files.readAllLines(Path.of("README.md"));
        Set<String> called = new TreeSet<>();
        EntropyBounds x = new EntropyBounds();
        for (String line : lines) {
            Matcher row = ROW.matcher(line);
            if (row.matches()) {
                called.add(row.group(1));
                CHECKS.due(line, answerOf(x, row.group(1), numbersIn(row.group(2))), row.group(3));
            } else if (line.startsWith("x.")) {
                CHECKS.due(line, "no answer", "a call and its answer");
            }
        }
        for (Method method : EntropyBounds.class.getDeclaredMethods()) {
            if (Modifier.isPublic(method.getModifiers())) {
                eachCallIsTold(method.getName(), called, lines);
            }
        }
        CHECKS.end();
    }

    private static void eachCallIsTold(String name, Set<String> called, List<String> lines) {
        boolean inTable = lines.stream().anyMatch(line -> line.startsWith("| `" + name + "("));
        CHECKS.due("README.md has an example of " + name, called.contains(name), true);
        CHECKS.due("README.md has a row for " + name, inTable, true);
    }

    private static Object[] numbersIn(String list) {
        return Arrays.stream(list.split(",")).map(String::trim).filter(part -> !part.isEmpty())
                .map(Integer::valueOf).toArray();
    }

    private static String answerOf(EntropyBounds x, String name, Object[] numbers) throws Exception {
        Class<?>[] types = new Class<?>[numbers.length];
        Arrays.fill(types, int.class);
        try {
            return String.valueOf(EntropyBounds.class.getMethod(name, types).invoke(x, numbers));
        } catch (InvocationTargetException e) {
            return "throws " + e.getCause().getClass().getSimpleName();
        }
    }
}
