import java.lang.reflect.InvocationTargetException;
import java.lang.reflect.Method;
import java.util.Comparator;
import java.util.List;
import java.util.ArrayList;

/** Runs all tests of a class that are named after a sentence: promise7_.. or term_.. */
final class Sentences {
    static final String NAMED = "(promise[0-9]+|term)_.*";

    private Sentences() {
    }

    static void runAll(Class<?> tests) throws IllegalAccessException {
        List<Method> found = new ArrayList<>();
        for (Method m : tests.getDeclaredMethods()) {
            if (m.getName().matches(NAMED)) {
                found.add(m);
            }
        }
        found.sort(Comparator.comparing(Method::getName));
        for (Method m : found) {
            run(m);
        }
        Check.about("");
        Check.holds("there are tests in " + tests.getName(), !found.isEmpty());
        System.out.println(found.size() + " sentences");
        Check.end();
    }

    private static void run(Method m) throws IllegalAccessException {
        Check.about(m.getName());
        int asked = Check.asked();
        try {
            m.invoke(null);
            Check.holds("something is asked", Check.asked() > asked);
        } catch (InvocationTargetException e) {
            e.getCause().printStackTrace(System.out);
            Check.holds("nothing is thrown", false);
        }
    }
}
