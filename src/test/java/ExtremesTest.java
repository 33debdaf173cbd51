import java.lang.reflect.InvocationTargetException;
import java.lang.reflect.Method;
import java.lang.reflect.Modifier;
import java.util.ArrayList;
import java.util.Comparator;
import java.util.List;
import java.util.Random;

/** Whatever the arguments, in whatever state: no call throws, and with another STATUS than 0 it gives NONE or false. */
public final class ExtremesTest {
    private static final int[] EDGES = {Integer.MIN_VALUE, Integer.MIN_VALUE + 1, -65536, -2, -1, 0, 1, 2, 3, 4, 5, 6, 7, 8, 9, 10,
        15, 16, 17, 20, 21, 59, 60, 61, 63, 89, 90, 91, 99, 127, 128, 300, 900, 998, 999, 1000, 9980, 9999, 10000, 65536,
        Integer.MAX_VALUE - 20, Integer.MAX_VALUE - 1, Integer.MAX_VALUE};
    private static final String[] TEXTS = {Check.MARKET,
        "place a;place b;place c;place d;place e;place f;place g;way a b long 9;way b c long 9;way c d long 9;way d e long 9;"
            + "way e f long 9;way f g long 9 loses 9;way a g long 1 loses 9;slate s at g;slate t at a;slate u at d;slate v at g;"
            + "caller p at a;cry p 99 99 99;cry p 1 2 3;cry p 5;caller q at g;cry q 9;cry q 9 9;cry q 9 9 9;caller r at d;caller x at e;"
            + "caller y at f;cry y 10 9;call p 0 at 20;call q 2 at 0;call y 0 at 13;"};

    public static void main(String[] args) throws Exception {
        List<Method> methods = new ArrayList<>();
        for (Method m : MurmurHall.class.getDeclaredMethods()) if (Modifier.isPublic(m.getModifiers())) methods.add(m);
        methods.sort(Comparator.comparing(Method::getName));
        int wrong = 0;
        for (int run = 0; run < 3000 && wrong < 5; run++) wrong += oneRun(methods, new Random(run), run);
        System.out.println(wrong == 0 ? "no call threw" : "calls threw, or answered with a status");
        if (wrong != 0) System.exit(1);
    }

    private static int oneRun(List<Method> methods, Random random, int run) throws Exception {
        MurmurHall x = new MurmurHall();
        if (run % 3 > 0) Check.hall(x, TEXTS[run % 3 - 1]);
        if (run % 2 == 0) Check.mornings(x, "loop 99;any;when heard s 5>3;hush;end;record;walk p b;end;");
        if (run % 5 > 0) x.record();
        for (int i = 0; i < 200; i++) {
            Method m = methods.get(random.nextInt(methods.size()));
            Object[] given = new Object[m.getParameterCount()];
            for (int k = 0; k < given.length; k++) {
                int v = random.nextInt(4) > 0 ? random.nextInt(5) : EDGES[random.nextInt(EDGES.length)];
                if (m.getParameterTypes()[k] == int.class) given[k] = v; else given[k] = (long) v << random.nextInt(33);
            }
            String told = "run " + run + ": " + m.getName() + java.util.Arrays.toString(given);
            try {
                Object got = m.invoke(x, given);
                boolean none = got instanceof Boolean b ? !b : ((Number) got).longValue() == MurmurHall.NONE;
                boolean plain = List.of("status", "top", "bottom", "feed", "fault").contains(m.getName());
                if (!plain && (x.status() < 0 || x.status() > 9 || x.status() != 0 && !none)) {
                    System.out.println(told + " answered " + got + " with status " + x.status());
                    return 1;
                }
                if (x.bottom() < 1) { System.out.println(told + " left a bottom of " + x.bottom()); return 1; }
            } catch (InvocationTargetException e) {
                System.out.println(told + " threw " + e.getCause());
                return 1;
            }
        }
        return 0;
    }
}
