import java.lang.reflect.Method;
import java.util.Set;
import java.util.TreeSet;

/** Each promise and each term has edge tests that bear its number. */
public final class PromisesTest {
    private static final Class<?>[] TESTS = {
        DeskEdgeTest.class, CommitEdgeTest.class, WorkEdgeTest.class, PieceEdgeTest.class, HistoryEdgeTest.class,
        SearchEdgeTest.class, WouldEdgeTest.class, TermEdgeTest.class,
    };

    private PromisesTest() {
    }

    private static void needNumbers(String kind, int most, Set<String> names) {
        for (int number = 1; number <= most; number++) {
            String beginning = String.format("%s%02d_", kind, number);
            boolean isThere = names.stream().anyMatch(name -> name.startsWith(beginning));
            Check.due(number, "a test named " + beginning + "...", isThere, true);
        }
    }

    public static void main(String[] arguments) {
        Set<String> names = new TreeSet<>();
        for (Class<?> tests : TESTS) {
            for (Method method : tests.getDeclaredMethods()) {
                if (method.getName().matches(Edge.NAME)) {
                    names.add(method.getName());
                }
            }
        }
        needNumbers("promise", 55, names);
        needNumbers("term", 6, names);
        Check.end();
    }
}
