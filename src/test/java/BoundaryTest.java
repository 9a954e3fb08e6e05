import java.lang.reflect.Method;
import java.util.HashSet;
import java.util.Set;

/** The sentences of the document that name a boundary, each with a test of its own, named by its promise. */
public final class BoundaryTest {
    private static final int PROMISES = 43;
    private static final Class<?>[] TESTS = {NotesBoundaries.class, TextBoundaries.class, WindowsBoundaries.class,
        PathBoundaries.class, ChordsBoundaries.class};

    private BoundaryTest() {
    }

    public static void main(String[] args) throws ReflectiveOperationException {
        Set<String> tested = new HashSet<>();
        for (Class<?> tests : TESTS) {
            Boundaries.CHECKER.runAll(tests);
            for (Method method : tests.getDeclaredMethods()) {
                tested.add(method.getName().split("_")[0]);
            }
        }
        for (int promise = 1; promise <= PROMISES; promise++) {
            String name = String.format("promise%02d", promise);
            Boundaries.CHECKER.due(name + " has a test", tested.contains(name) ? 1 : 0, 1);
        }
        Boundaries.CHECKER.finish();
    }
}
