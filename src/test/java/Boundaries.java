import java.lang.reflect.InvocationTargetException;
import java.lang.reflect.Method;
import java.util.ArrayList;
import java.util.Arrays;
import java.util.Comparator;
import java.util.List;

/** Runs the tests of boundary cases, each a method with the words of the document that it looks at. */
final class Boundaries {
    static final List<Class<?>> ALL = List.of(BasicsBoundariesTest.class, TextBoundariesTest.class, DeedsBoundariesTest.class,
        HeardBoundariesTest.class, GuessBoundariesTest.class, OddsAndLifeBoundariesTest.class);

    private Boundaries() { }

    static List<Method> testsOf(Class<?> tests) {
        List<Method> found = new ArrayList<>();
        for (Method m : tests.getDeclaredMethods()) if (m.isAnnotationPresent(Says.class)) found.add(m);
        found.sort(Comparator.comparing((Method m) -> m.getAnnotation(Says.class).of()).thenComparing(Method::getName));
        return found;
    }

    /** Each by itself, so that one that breaks off leaves the others to be run; answers the names of those that fail. */
    static List<String> failures(Class<?> tests) {
        List<String> failed = new ArrayList<>();
        for (Method m : testsOf(tests)) {
            int before = Check.wrong();
            try {
                m.setAccessible(true);
                m.invoke(null);
            } catch (InvocationTargetException e) {
                Check.broken(m.getName() + " broke off: " + e.getCause());
            } catch (IllegalAccessException e) {
                Check.broken(m.getName() + " can't be run: " + e);
            }
            if (Check.wrong() != before) failed.add(m.getName());
        }
        return failed;
    }

    static void run(Class<?> tests) {
        List<String> failed = failures(tests);
        for (String name : failed) {
            Method m = testsOf(tests).stream().filter(t -> t.getName().equals(name)).findFirst().get();
            System.out.println("FAILED: " + name + ", promise " + m.getAnnotation(Says.class).of() + ": "
                + Arrays.toString(m.getAnnotation(Says.class).value()));
        }
        System.out.println(testsOf(tests).size() + " boundary cases, " + failed.size() + " of them broken");
        if (!failed.isEmpty()) System.exit(1);
    }
}
