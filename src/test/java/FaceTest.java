import java.lang.reflect.Constructor;
import java.lang.reflect.Field;
import java.lang.reflect.Method;
import java.lang.reflect.Modifier;
import java.nio.file.Files;
import java.nio.file.Path;
import java.util.Arrays;
import java.util.Set;
import java.util.TreeSet;
import java.util.stream.Collectors;

/** The public face is the document's, and the source keeps to what LANGUAGE.md leaves. */
public final class FaceTest {
    private static final Checks CHECKS = new Checks("FaceTest");

    private static final String[] METHODS = {
        "int sign(int)", "int wipe()", "int order(int)", "int context(int,int)",
        "int count(int,int)", "long log(int,int,int)", "int weight(int,int)",
        "long share(int) throws ArithmeticException,ArrayIndexOutOfBoundsException",
        "long cost(int,int,int)", "int digits(int,int)", "int width(int,int)", "int bits(int)",
        "int pieces(int)", "int piece(int,int,int)", "int grammar(int)", "int rule(int,int)",
        "int symbol(int) throws ArrayIndexOutOfBoundsException", "int length()",
    };

    private static final String[] LEFT_OUT = {
        "catch", "try", "finally", "synchronized", "assert", "->", "::", "Exact(", "@", "protected",
        "double", "float", "package", "static {", "hashCode", "toString", "System.out", "Random",
    };

    public static void main(String[] args) throws Exception {
        members();
        methods();
        nestedClasses();
        source();
        CHECKS.end();
    }

    private static void members() throws Exception {
        CHECKS.due("modifiers of the class", Modifier.toString(EntropyBounds.class.getModifiers()),
                "public final");
        Constructor<?>[] constructors = EntropyBounds.class.getDeclaredConstructors();
        CHECKS.due("constructors", constructors.length, 1);
        CHECKS.due("constructor", constructors[0].toString(), "public EntropyBounds()");
        Set<String> visible = new TreeSet<>();
        for (Field field : EntropyBounds.class.getDeclaredFields()) {
            if (!Modifier.isPrivate(field.getModifiers())) {
                visible.add(field + " = " + field.getInt(null));
            }
        }
        CHECKS.due("visible fields", visible, new TreeSet<>(Set.of(
                "public static final int EntropyBounds.BAD = -1",
                "public static final int EntropyBounds.NONE = -2",
                "public static final int EntropyBounds.FULL = -3")));
    }

    private static void methods() {
        Set<String> visible = new TreeSet<>();
        Set<String> names = new TreeSet<>();
        for (Method method : EntropyBounds.class.getDeclaredMethods()) {
            if (!Modifier.isPrivate(method.getModifiers())) {
                visible.add(faceOf(method));
                names.add(method.getName());
            }
        }
        CHECKS.due("visible methods", visible, new TreeSet<>(Arrays.asList(METHODS)));
        for (Class<?> one : EntropyBounds.class.getDeclaredClasses()) {
            for (Method method : one.getDeclaredMethods()) {
                CHECKS.due("bears a public name: " + method, names.contains(method.getName()), false);
            }
        }
        for (Method method : EntropyBounds.class.getDeclaredMethods()) {
            boolean hidden = Modifier.isPrivate(method.getModifiers());
            CHECKS.due("bears a public name: " + method, hidden && names.contains(method.getName()), false);
        }
    }

    private static String faceOf(Method method) {
        String modifiers = Modifier.toString(method.getModifiers());
        String face = method.getReturnType() + " " + method.getName() + "("
                + namesOf(method.getParameterTypes()) + ")";
        String thrown = namesOf(method.getExceptionTypes());
        String tail = thrown.isEmpty() ? "" : " throws " + thrown;
        return (modifiers.equals("public") ? "" : modifiers + " ") + face + tail;
    }

    private static String namesOf(Class<?>[] types) {
        return Arrays.stream(types).map(Class::getSimpleName).collect(Collectors.joining(","));
    }

    private static void nestedClasses() {
        Class<?>[] nested = EntropyBounds.class.getDeclaredClasses();
        CHECKS.due("at most twelve classes", nested.length < 12, true);
        for (Class<?> one : nested) {
            int modifiers = one.getModifiers();
            boolean hidden = !Modifier.isPublic(modifiers) && !Modifier.isProtected(modifiers);
            CHECKS.due("hidden and static: " + one, hidden && Modifier.isStatic(modifiers), true);
            CHECKS.due("at most twenty fields: " + one, one.getDeclaredFields().length <= 20, true);
        }
    }

    private static void source() throws Exception {
        String source = Files.readString(Path.of("src/main/java/EntropyBounds.java"));
        String code = source.replaceAll("(?s)/\\*.*?\\*/", "").replaceAll("//[^\n]*", "");
        for (String word : LEFT_OUT) {
            boolean plainWord = word.chars().allMatch(Character::isLetter);
            String pattern = plainWord ? "(?s).*\\b" + word + "\\b.*" : "(?s).*\\Q" + word + "\\E.*";
            CHECKS.due("the source has " + word, code.matches(pattern), false);
        }
        Set<String> imports = code.lines().filter(line -> line.startsWith("import "))
                .collect(Collectors.toCollection(TreeSet::new));
        CHECKS.due("imports", imports, "[import java.util.Arrays;]");
    }
}
