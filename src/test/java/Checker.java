import java.lang.reflect.Method;
import java.util.Arrays;
import java.util.Comparator;

/** Counts and prints the calls whose answer is not the one that is due. */
final class Checker {
    private int wrong;
    private int asked;
    private String test = "";

    void due(String what, long got, long want) {
        asked++;
        if (got != want) {
            wrong++;
            System.out.println(test + what + " answered " + got + ", due is " + want);
        }
    }

    /** Several answers in a row against a text of them. */
    void row(String what, int[] got, int... want) {
        due(what + " (how many)", got.length, want.length);
        for (int i = 0; i < Math.min(got.length, want.length); i++) {
            due(what + " [" + i + "]", got[i], want[i]);
        }
    }

    /** Every test of a class, so that none is forgotten: its methods whose names begin with "promise". */
    void runAll(Class<?> tests) throws ReflectiveOperationException {
        Method[] methods = tests.getDeclaredMethods();
        Arrays.sort(methods, Comparator.comparing(Method::getName));
        for (Method method : methods) {
            if (method.getName().startsWith("promise")) {
                test = method.getName() + ": ";
                int before = asked;
                method.setAccessible(true);
                method.invoke(null);
                int looked = asked - before;
                due("looks at something", looked > 0 ? 1 : 0, 1);
            }
        }
        test = "";
    }

    int wrong() {
        return wrong;
    }

    void finish() {
        System.out.println(asked + " answers looked at, " + wrong + " not as due");
        if (wrong != 0) {
            System.exit(1);
        }
    }
}
