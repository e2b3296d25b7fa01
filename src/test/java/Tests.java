import java.lang.reflect.InvocationTargetException;
import java.lang.reflect.Method;
import java.util.ArrayList;
import java.util.Arrays;
import java.util.Comparator;
import java.util.List;

/** Runs the tests of a class: its static methods whose names begin with a promise's number or with "terms". */
final class Tests {
    private static final List<String> RUN = new ArrayList<>();

    private Tests() {
    }

    static void runAll(Class<?> tests) {
        Method[] methods = tests.getDeclaredMethods();
        Arrays.sort(methods, Comparator.comparing(Method::getName));
        for (Method method : methods) {
            if (method.getName().matches("(promise[0-9]|terms).*") && !method.isSynthetic()) {
                run(method);
            }
        }
    }

    /** That a test whose name begins so has been run. */
    static void require(String beginOfName) {
        Check.that("there is no test " + beginOfName, RUN.stream().anyMatch(name -> name.startsWith(beginOfName)));
    }

    private static void run(Method test) {
        RUN.add(test.getName());
        Check.begin(test.getName());
        test.setAccessible(true);
        try {
            test.invoke(null);
        } catch (InvocationTargetException e) {
            Check.that("it ended early with " + e.getCause(), false);
        } catch (IllegalAccessException e) {
            Check.that("it cannot be run: " + e, false);
        }
        Check.begin("");
    }
}
