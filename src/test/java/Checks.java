import java.lang.reflect.InvocationTargetException;
import java.lang.reflect.Method;
import java.util.Arrays;
import java.util.Comparator;

/** Counts what is not as due, prints it, and ends the program with 1 if there was any. */
final class Checks {
    private final String about;
    private String test = "";
    private int tests = 0;
    private int checks = 0;
    private int wrong = 0;

    Checks(String about) {
        this.about = about;
    }

    void due(String call, Object got, Object want) {
        checks++;
        if (!String.valueOf(got).equals(String.valueOf(want))) {
            wrong(call + " answered " + got + ", due is " + want);
        }
    }

    /**
     * Runs every test of a class: its methods without arguments that are named after a promise.
     * What one of them throws counts as wrong and does not keep the others from being run.
     */
    void runTestsOf(Class<?> testClass) {
        Method[] methods = testClass.getDeclaredMethods();
        Arrays.sort(methods, Comparator.comparing(Method::getName));
        for (Method method : methods) {
            if (method.getName().matches("promise\\d\\d[A-Z].*") && method.getParameterCount() == 0) {
                runTest(method);
            }
        }
        test = "";
    }

    private void runTest(Method method) {
        test = method.getName();
        tests++;
        int before = checks;
        try {
            method.setAccessible(true);
            method.invoke(null);
            if (checks == before) {
                wrong("the test has checked nothing");
            }
        } catch (InvocationTargetException e) {
            wrong("threw " + e.getCause());
        } catch (IllegalAccessException e) {
            wrong("can't be called");
        }
    }

    private void wrong(String what) {
        wrong++;
        System.out.println(about + ": " + (test.isEmpty() ? "" : test + ": ") + what);
    }

    void end() {
        String told = tests == 0 ? "" : tests + " tests, ";
        System.out.println(about + ": " + told + checks + " checks, " + wrong + " wrong");
        if (checks == 0 || wrong != 0) {
            System.exit(1);
        }
    }
}
