import java.lang.reflect.InvocationTargetException;
import java.lang.reflect.Method;
import java.util.ArrayList;
import java.util.List;

/** Runs the tests of a class that are named after promises: promise02FeedUpTo700Bytes and so on. */
final class Edges {
    private Edges() {
    }

    static List<Method> tests(Class<?> owner) {
        List<Method> found = new ArrayList<>();
        for (Method method : owner.getDeclaredMethods()) {
            if (method.getName().matches("promise\\d\\d\\w+")) {
                found.add(method);
            }
        }
        found.sort((one, other) -> one.getName().compareTo(other.getName()));
        return found;
    }

    static void run(Class<?> owner) throws InvocationTargetException, IllegalAccessException {
        List<Method> tests = tests(owner);
        for (Method test : tests) {
            int before = Told.asked();
            Told.begin(test.getName());
            test.invoke(null);
            if (Told.asked() == before) {
                throw new IllegalStateException(test.getName() + " asks nothing");
            }
        }
        Told.end(owner.getSimpleName() + " (" + tests.size() + " tests)");
    }
}
