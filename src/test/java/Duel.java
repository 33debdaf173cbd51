import java.lang.reflect.InvocationTargetException;
import java.lang.reflect.Method;
import java.util.ArrayList;
import java.util.Arrays;
import java.util.HashMap;
import java.util.List;
import java.util.Map;
import java.util.TreeMap;

/** A MurmurHall and an Oracle that are asked the same, call by call; what they answered is told when they disagree. */
final class Duel {
    private static final Map<String, Method> OF_HALL = methods(MurmurHall.class);
    private static final Map<String, Method> OF_ORACLE = methods(Oracle.class);
    /** How often each outcome that a test names was met, in all duels. */
    private static final Map<String, Integer> MET = new TreeMap<>();

    final MurmurHall x = new MurmurHall();
    final Oracle o = new Oracle();
    private final List<String> log = new ArrayList<>();
    private boolean wrong;

    private static Map<String, Method> methods(Class<?> c) {
        Map<String, Method> found = new HashMap<>();
        for (Method m : c.getDeclaredMethods()) if (!java.lang.reflect.Modifier.isPrivate(m.getModifiers())) found.put(m.getName(), m);
        return found;
    }

    boolean wrong() { return wrong; }
    int status() { return o.status; }

    void tell(String what) {
        System.out.println(what + ":");
        log.subList(Math.max(0, log.size() - 40), log.size()).forEach(System.out::println);
    }

    static void met(String what) { MET.merge(what, 1, Integer::sum); }
    static void metIf(boolean holds, String what) { if (holds) met(what); }

    /** A test by draws is worth nothing where the draws never lead: answers how many of these outcomes were met too rarely. */
    static int notMet(int often, String... outcomes) {
        int missing = 0;
        for (String what : outcomes) {
            if (MET.getOrDefault(what, 0) < often) {
                missing++;
                System.out.println("met " + MET.getOrDefault(what, 0) + " times only: " + what);
            }
        }
        return missing;
    }

    static Map<String, Integer> census() { return MET; }

    /** Both are asked; a boolean counts 1 or 0. */
    long ask(String name, long... given) {
        long got = answer(OF_HALL.get(name), x, given);
        long due = answer(OF_ORACLE.get(name), o, given);
        log.add(name + Arrays.toString(given) + " = " + got);
        mustBe(name, got, due);
        mustBe("its status", x.status(), o.status);
        mustBe("the top", x.top(), o.top);
        mustBe("the bottom", x.bottom(), o.bottom);
        mustBe("fault(0)", x.fault(0), o.fault(0));
        mustBe("fault(1)", x.fault(1), o.fault(1));
        return due;
    }

    private void mustBe(String what, long got, long due) {
        if (got == due) return;
        wrong = true;
        log.add("    " + what + " was " + got + ", due is " + due);
    }

    private static long answer(Method m, Object of, long... given) {
        Object[] args = new Object[given.length];
        for (int i = 0; i < given.length; i++) args[i] = m.getParameterTypes()[i] == int.class ? (Object) (int) given[i] : (Object) given[i];
        try {
            Object got = m.invoke(of, args);
            return got instanceof Boolean b ? (b ? 1 : 0) : ((Number) got).longValue();
        } catch (InvocationTargetException e) {
            throw new IllegalStateException(m.getName() + Arrays.toString(given) + " threw", e.getCause());
        } catch (IllegalAccessException e) {
            throw new IllegalStateException(e);
        }
    }

    private void feed(String text) {
        log.add("text [" + text + "]");
        for (int at = 0; at < text.length(); at += 20) {
            long[] five = new long[5];
            for (int i = 0; i < 20; i++) {
                int sign = at + i < text.length() ? text.charAt(at + i) : 0;
                five[i / 4] = (int) (five[i / 4] << 8 | sign);
            }
            ask("feed", five);
        }
    }

    long hall(String text) {
        feed(text);
        return ask("hall", text.length());
    }

    long mornings(String text) {
        feed(text);
        return ask("mornings", text.length());
    }

    /** All that the HALL is, told by both. */
    void compareAll() {
        for (int what = 0; what < 8; what++) ask("told", what);
        for (int way = 0; way < o.h.ways.size(); way++) for (int what = 0; what < 4; what++) ask("way", way, what);
        for (int place = 0; place < o.h.places.size(); place++) {
            for (int other = 0; other < o.h.places.size(); other++) {
                ask("far", place, other);
                ask("lost", place, other);
            }
        }
        for (int slate = 0; slate < o.h.slates.size(); slate++) {
            ask("slate", slate);
            ask("all", slate);
            if (o.h.recorded != null) for (int beat = 0; beat <= 90; beat++) ask("recorded", slate, beat);
        }
        for (int caller = 0; caller < o.h.callers.size(); caller++) {
            for (int what = 0; what < 2; what++) ask("caller", caller, what);
            for (int cry = 0; cry < 3; cry++) for (int i = 0; i < 3; i++) ask("cry", caller, cry, i);
        }
        for (int call = 0; call < o.h.calls.size(); call++) for (int what = 0; what < 3; what++) ask("call", call, what);
        for (int tray = 0; tray < 4; tray++) {
            int many = o.trays[tray] == null ? 0 : o.trays[tray].length;
            for (int place = 0; place <= many; place++) ask("read", tray, place);
        }
        for (int what = 0; what < 5; what++) ask("lived", what);
    }
}
