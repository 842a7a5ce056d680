import java.lang.reflect.Constructor;
import java.lang.reflect.Field;
import java.lang.reflect.Method;
import java.lang.reflect.Modifier;
import java.nio.file.Files;
import java.nio.file.Path;
import java.util.Arrays;
import java.util.Set;
import java.util.TreeSet;
import java.util.stream.Collectors;

/** The public face is the document's, and the source keeps to what LANGUAGE.md leaves. */
public final class FaceTest {
    private static final Checks CHECKS = new Checks("FaceTest");

    private static final String[] METHODS = {
        "int sign(int)", "int wipe()", "int order(int)", "int context(int,int)",
        "int count(int,int)", "long log(int,int,int)", "int weight(int,int)",
        "long share(int) throws ArithmeticException,ArrayIndexOutOfBoundsException",
        "long cost(int,int,int)", "int digits(int,int)", "int width(int,int)", "int bits(int)",
        "int pieces(int)", "int piece(int,int,int)", "int grammar(int)", "int rule(int,int)",
        "int symbol(int) throws ArrayIndexOutOfBoundsException", "int length()",
    };

    /** What LANGUAGE.md leaves out, wherever it stands in the code. */
    private static final String[] LEFT_OUT = {
        "package", "protected", "finally", "synchronized", "assert", "volatile", "native", "static {",
        "::", "Exact(", "getMessage", "hashCode", "System.out", "System.err", "nanoTime",
        "currentTimeMillis", "Random", "Thread",
    };

    private static final Set<String> IMPORTS = Set.of(
            "import java.util.ArrayList;", "import java.util.Arrays;", "import java.util.Iterator;",
            "import java.util.List;", "import java.util.NoSuchElementException;");

    /** What the machine throws, and the classes above it. */
    private static final String NEVER_CAUGHT = "ArrayIndexOutOfBoundsException|NullPointerException"
            + "|ClassCastException|NegativeArraySizeException|ArrayStoreException|Exception|Throwable|Error";

    public static void main(String[] args) throws Exception {
        members();
        methods();
        nestedClasses();
        source();
        CHECKS.end();
    }

    private static void members() throws Exception {
        CHECKS.due("modifiers of the class", Modifier.toString(EntropyBounds.class.getModifiers()),
                "public final");
        Constructor<?>[] constructors = EntropyBounds.class.getDeclaredConstructors();
        CHECKS.due("constructors", constructors.length, 1);
        CHECKS.due("constructor", constructors[0].toString(), "public EntropyBounds()");
        Set<String> visible = new TreeSet<>();
        for (Field field : EntropyBounds.class.getDeclaredFields()) {
            if (!Modifier.isPrivate(field.getModifiers())) {
                visible.add(field + " = " + field.getInt(null));
            }
        }
        CHECKS.due("visible fields", visible, new TreeSet<>(Set.of(
                "public static final int EntropyBounds.BAD = -1",
                "public static final int EntropyBounds.NONE = -2",
                "public static final int EntropyBounds.FULL = -3")));
    }

    private static void methods() {
        Set<String> visible = new TreeSet<>();
        Set<String> names = new TreeSet<>();
        for (Method method : EntropyBounds.class.getDeclaredMethods()) {
            if (!Modifier.isPrivate(method.getModifiers())) {
                visible.add(faceOf(method));
                names.add(method.getName());
            }
        }
        CHECKS.due("visible methods", visible, new TreeSet<>(Arrays.asList(METHODS)));
        for (Class<?> one : EntropyBounds.class.getDeclaredClasses()) {
            noPrivateMethodBears(names, one);
        }
        noPrivateMethodBears(names, EntropyBounds.class);
    }

    private static void noPrivateMethodBears(Set<String> names, Class<?> one) {
        for (Method method : one.getDeclaredMethods()) {
            boolean hidden = Modifier.isPrivate(method.getModifiers());
            CHECKS.due("bears a public name: " + method, hidden && names.contains(method.getName()), false);
        }
    }

    private static String faceOf(Method method) {
        String modifiers = Modifier.toString(method.getModifiers());
        String face = method.getReturnType() + " " + method.getName() + "("
                + namesOf(method.getParameterTypes()) + ")";
        String thrown = namesOf(method.getExceptionTypes());
        String tail = thrown.isEmpty() ? "" : " throws " + thrown;
        return (modifiers.equals("public") ? "" : modifiers + " ") + face + tail;
    }

    private static String namesOf(Class<?>[] types) {
        return Arrays.stream(types).map(Class::getSimpleName).collect(Collectors.joining(","));
    }

    private static void nestedClasses() {
        Class<?>[] nested = EntropyBounds.class.getDeclaredClasses();
        CHECKS.due("some twelve classes at most", nested.length < 15, true);
        for (Class<?> one : nested) {
            int modifiers = one.getModifiers();
            boolean hidden = !Modifier.isPublic(modifiers) && !Modifier.isProtected(modifiers);
            CHECKS.due("hidden and static: " + one, hidden && Modifier.isStatic(modifiers), true);
            long fields = Arrays.stream(one.getDeclaredFields())
                    .filter(field -> !Modifier.isStatic(field.getModifiers())).count();
            CHECKS.due("some twenty fields at most: " + one, fields <= 22, true);
        }
    }

    private static void source() throws Exception {
        String source = Files.readString(Path.of("src/main/java/EntropyBounds.java"));
        String code = source.replaceAll("(?s)/\\*.*?\\*/", "").replaceAll("//[^\n]*", "");
        for (String word : LEFT_OUT) {
            boolean plainWord = word.chars().allMatch(Character::isLetter);
            String pattern = plainWord ? "(?s).*\\b" + word + "\\b.*" : "(?s).*\\Q" + word + "\\E.*";
            CHECKS.due("the source has " + word, code.matches(pattern), false);
        }
        code.lines().filter(line -> line.startsWith("import "))
                .forEach(line -> CHECKS.due(line, IMPORTS.contains(line), true));
        boolean caught = code.matches("(?s).*catch\\s*\\([^)]*\\b(" + NEVER_CAUGHT + ")\\b.*");
        CHECKS.due("the source catches what the machine throws", caught, false);
    }
}
