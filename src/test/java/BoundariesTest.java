import java.lang.reflect.Method;
import java.util.Set;
import java.util.TreeSet;

/**
 * Each sentence of the document that names a boundary case has a test of its own, named after
 * the promise's number; no promise is without one.
 */
public final class BoundariesTest {
    private static final Class<?>[] CLASSES = {
        TextBoundaries.class, LogBoundaries.class, WordBoundaries.class, PieceBoundaries.class,
        GrammarBoundaries.class,
    };

    public static void main(String[] args) {
        Set<Integer> promises = new TreeSet<>();
        for (Class<?> one : CLASSES) {
            Boundaries.CHECKS.runTestsOf(one);
            for (Method method : one.getDeclaredMethods()) {
                if (method.getName().startsWith("promise")) {
                    promises.add(Integer.parseInt(method.getName().substring(7, 9)));
                }
            }
        }
        for (int promise = 1; promise <= 19; promise++) {
            Boundaries.CHECKS.due("promise " + promise + " has a test", promises.contains(promise), true);
        }
        Boundaries.CHECKS.end();
    }
}
