import java.lang.reflect.InvocationTargetException;
import java.lang.reflect.Method;
import java.util.Arrays;
import java.util.Comparator;
import java.util.Set;
import java.util.TreeSet;

/**
 * Runs each method of a class whose name begins with "promise" or "term". Such a test is of one
 * sentence of the document: promise4_endsAt59OrBefore, termStep2_levelStaysFrom0To200.
 */
final class NamedTests {

    private static final int PROMISES = 56;
    private static final String[] TERMS = {"Dock", "Sea", "Ships", "Entering", "Leaving", "Blocks",
        "Hours", "Step1", "Step2", "Step3", "Commands", "Changes", "Exceptions"};

    private final Set<String> titles = new TreeSet<>();
    private int count = 0;

    private NamedTests() {
    }

    static void runAll(Class<?>... classes) {
        NamedTests tests = new NamedTests();
        for (Class<?> each : classes) {
            tests.runEach(each);
        }
        for (int promise = 1; promise <= PROMISES; promise++) {
            Check.that("tests of promise" + promise, tests.titles.contains("promise" + promise),
                    true);
        }
        for (String term : TERMS) {
            Check.that("tests of term" + term, tests.titles.contains("term" + term), true);
        }
        System.out.println(tests.count + " sentences tested");
    }

    private void runEach(Class<?> tests) {
        Method[] methods = tests.getDeclaredMethods();
        Arrays.sort(methods, Comparator.comparing(Method::getName));
        for (Method method : methods) {
            String name = method.getName();
            if (name.startsWith("promise") || name.startsWith("term")) {
                titles.add(name.substring(0, Math.max(0, name.indexOf('_'))));
                count++;
                run(method);
            }
        }
    }

    /** A test that throws, or that checks nothing, has failed. */
    private static void run(Method test) {
        int before = Check.checks();
        Check.begin(test.getName());
        try {
            test.invoke(null);
        } catch (InvocationTargetException thrown) {
            Check.that("went to its end", thrown.getCause(), "no exception");
        } catch (IllegalAccessException thrown) {
            Check.that("can be called", thrown, "no exception");
        }
        Check.that("checks something", Check.checks() > before, true);
        Check.end();
    }
}
