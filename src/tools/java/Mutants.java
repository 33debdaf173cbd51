import java.io.ByteArrayOutputStream;
import java.io.OutputStream;
import java.io.PrintStream;
import java.lang.reflect.Method;
import java.net.URI;
import java.nio.file.Files;
import java.nio.file.Path;
import java.util.ArrayList;
import java.util.HashMap;
import java.util.LinkedHashSet;
import java.util.List;
import java.util.Map;
import java.util.Random;
import java.util.Set;
import java.util.concurrent.ExecutorService;
import java.util.concurrent.Executors;
import java.util.concurrent.Future;
import java.util.concurrent.TimeUnit;
import java.util.regex.Matcher;
import java.util.regex.Pattern;
import javax.tools.FileObject;
import javax.tools.ForwardingJavaFileManager;
import javax.tools.JavaCompiler;
import javax.tools.JavaFileManager;
import javax.tools.JavaFileObject;
import javax.tools.SimpleJavaFileObject;
import javax.tools.ToolProvider;

/**
 * Breaks the class in one small way at a time and tells which of these no boundary test sees, and which of these the
 * runs by draws in narrow worlds see. Not run by .ci/run:
 * a row of its answer is a place to look, since some changes change no answer.
 * java -cp OUT Mutants DIR-OF-COMPILED-TESTS [HOW-MANY-OF-THEM [SEED]]
 */
public final class Mutants {
    private static final Path SOURCE = Path.of("src/main/java/MurmurHall.java");
    private static final int SECONDS = 100;
    private static final int DRAWN_RUNS = 60;
    private static final String[][] SWAPS = {{" < ", " <= "}, {" <= ", " < "}, {" > ", " >= "}, {" >= ", " > "}, {" == ", " != "},
        {" != ", " == "}, {" && ", " || "}, {" || ", " && "}, {" + ", " - "}, {" - ", " + "}, {" * ", " + "}, {" / ", " * "}, {" % ", " / "},
        {"++", "--"}, {"--", "++"}, {" += ", " -= "}, {" -= ", " += "}, {"(!", "("}, {" !", " "}, {"true", "false"}, {"false", "true"},
        {"(WRONG)", "(NOTHING)"}, {"(NOTHING)", "(WRONG)"}, {"(MISSING)", "(WRONG)"}, {"(TOO_SHORT)", "(WRONG)"}, {"(TOO_MANY)", "(REFUSED)"},
        {"(REFUSED)", "(WRONG)"}, {"(UNLIKE)", "(TOO_SHORT)"}, {"(FAULTY)", "(WRONG)"}, {"Math.min", "Math.max"}, {"Math.max", "Math.min"}};

    private record Mutant(int line, String was, String is) { }

    public static void main(String[] args) throws Exception {
        List<String> lines = Files.readAllLines(SOURCE);
        List<Mutant> all = mutants(lines);
        int many = args.length > 1 ? Math.min(Integer.parseInt(args[1]), all.size()) : all.size();
        java.util.Collections.shuffle(all, new Random(args.length > 2 ? Long.parseLong(args[2]) : 1));
        Map<String, byte[]> tests = classesIn(Path.of(args[0]));
        PrintStream told = System.out;
        System.setOut(new PrintStream(OutputStream.nullOutputStream()));
        ExecutorService pool = Executors.newFixedThreadPool(Runtime.getRuntime().availableProcessors());
        List<Future<String>> verdicts = new ArrayList<>();
        for (Mutant m : all.subList(0, many)) verdicts.add(pool.submit(() -> verdict(lines, m, tests)));
        int[] counts = new int[5];
        for (int i = 0; i < many; i++) {
            String verdict = verdicts.get(i).get();
            counts[List.of("seen", "too long", "no class", "UNSEEN", "seen by draws").indexOf(verdict)]++;
            Mutant m = all.get(i);
            if (verdict.equals("UNSEEN") || verdict.equals("seen by draws")) {
                told.println((m.line + 1) + ", " + verdict + ": " + m.was.trim() + "   ==>   " + m.is.trim());
            }
        }
        pool.shutdownNow();
        told.println(many + " of " + all.size() + ": " + counts[0] + " seen, " + counts[1] + " took too long, " + counts[2] + " did not compile, "
            + counts[4] + " seen by draws alone, " + counts[3] + " unseen");
        System.exit(0);
    }

    private static List<Mutant> mutants(List<String> lines) {
        Set<Mutant> found = new LinkedHashSet<>();
        for (int i = 0; i < lines.size(); i++) {
            String line = lines.get(i);
            String bare = line.trim();
            if (bare.startsWith("//") || bare.startsWith("*") || bare.startsWith("/*") || bare.startsWith("import")) continue;
            for (String[] swap : SWAPS) {
                for (int at = line.indexOf(swap[0]); at >= 0; at = line.indexOf(swap[0], at + 1)) {
                    found.add(new Mutant(i, line, line.substring(0, at) + swap[1] + line.substring(at + swap[0].length())));
                }
            }
            numbers(i, line, found);
            dropped(i, line, found);
            if (bare.matches("[\\w.\\[\\]* +]+(\\(.*\\)|\\+\\+|--| [-+|]?= .*);") && !bare.startsWith("return") && !bare.matches(".*\\b(final|int|long|boolean|static) .*=.*")) {
                found.add(new Mutant(i, line, ""));
            }
        }
        return new ArrayList<>(found);
    }

    private static void numbers(int i, String line, Set<Mutant> found) {
        Matcher m = Pattern.compile("(?<![\\w.])\\d+(?![\\w.])").matcher(line);
        while (m.find()) {
            long v = Long.parseLong(m.group());
            for (long w : new long[] {v - 1, v + 1}) found.add(new Mutant(i, line, line.substring(0, m.start()) + w + line.substring(m.end())));
        }
    }

    /** Of what stands between || or && one part less. */
    private static void dropped(int i, String line, Set<Mutant> found) {
        for (String sign : new String[] {" \\|\\| ", " && "}) {
            Matcher m = Pattern.compile("(?<=[(=] ?|return )([^()&|?]|\\([^()]*\\))+" + sign).matcher(line);
            while (m.find()) found.add(new Mutant(i, line, line.substring(0, m.start()) + line.substring(m.end())));
            m = Pattern.compile(sign + "([^()&|?;]|\\([^()]*\\))+").matcher(line);
            while (m.find()) found.add(new Mutant(i, line, line.substring(0, m.start()) + line.substring(m.end())));
        }
    }

    @SuppressWarnings({"deprecation", "removal"})
    private static String verdict(List<String> lines, Mutant mutant, Map<String, byte[]> tests) throws Exception {
        List<String> changed = new ArrayList<>(lines);
        changed.set(mutant.line, mutant.is);
        Map<String, byte[]> classes = compile(String.join("\n", changed));
        if (classes == null) return "no class";
        Map<String, byte[]> all = new HashMap<>(tests);
        all.putAll(classes);
        String[] seen = new String[1];
        Thread t = new Thread(() -> seen[0] = seenBy(new Loader(all)));
        t.start();
        t.join(TimeUnit.SECONDS.toMillis(SECONDS));
        if (t.isAlive()) {
            t.stop();
            return "too long";
        }
        return seen[0];
    }

    private static String seenBy(Loader loader) {
        if (isSeenByBoundaries(loader)) return "seen";
        return isSeenByDraws(loader) ? "seen by draws" : "UNSEEN";
    }

    private static boolean isSeenByDraws(Loader loader) {
        try {
            Method agree = loader.loadClass("NarrowRunsTest").getDeclaredMethod("agree", int.class, long.class);
            agree.setAccessible(true);
            return !(Boolean) agree.invoke(null, DRAWN_RUNS, 1L);
        } catch (Throwable e) {
            return true;
        }
    }

    private static boolean isSeenByBoundaries(Loader loader) {
        try {
            Class<?> boundaries = loader.loadClass("Boundaries");
            Method failures = boundaries.getDeclaredMethod("failures", Class.class);
            failures.setAccessible(true);
            java.lang.reflect.Field all = boundaries.getDeclaredField("ALL");
            all.setAccessible(true);
            for (Object c : (List<?>) all.get(null)) if (!((List<?>) failures.invoke(null, c)).isEmpty()) return true;
            return false;
        } catch (Throwable e) {
            return true;
        }
    }

    private static Map<String, byte[]> classesIn(Path dir) throws Exception {
        Map<String, byte[]> found = new HashMap<>();
        try (var files = Files.list(dir)) {
            for (Path p : (Iterable<Path>) files::iterator) {
                String name = p.getFileName().toString();
                if (name.endsWith(".class") && !name.startsWith("MurmurHall")) found.put(name.replace(".class", ""), Files.readAllBytes(p));
            }
        }
        return found;
    }

    private static final class Loader extends ClassLoader {
        private final Map<String, byte[]> classes;

        Loader(Map<String, byte[]> classes) {
            super(ClassLoader.getPlatformClassLoader());
            this.classes = classes;
        }

        @Override
        protected Class<?> findClass(String name) throws ClassNotFoundException {
            byte[] b = classes.get(name);
            if (b == null) throw new ClassNotFoundException(name);
            return defineClass(name, b, 0, b.length);
        }
    }

    private static Map<String, byte[]> compile(String source) {
        JavaCompiler javac = ToolProvider.getSystemJavaCompiler();
        Map<String, ByteArrayOutputStream> out = new HashMap<>();
        JavaFileManager files = new ForwardingJavaFileManager<>(javac.getStandardFileManager(null, null, null)) {
            @Override
            public JavaFileObject getJavaFileForOutput(Location l, String name, JavaFileObject.Kind kind, FileObject sibling) {
                return new SimpleJavaFileObject(URI.create("mem:///" + name.replace('$', '_') + ".class"), kind) {
                    @Override
                    public OutputStream openOutputStream() {
                        return out.computeIfAbsent(name, n -> new ByteArrayOutputStream());
                    }
                };
            }
        };
        JavaFileObject file = new SimpleJavaFileObject(URI.create("mem:///MurmurHall.java"), JavaFileObject.Kind.SOURCE) {
            @Override
            public CharSequence getCharContent(boolean ignore) { return source; }
        };
        boolean fine = javac.getTask(new java.io.StringWriter(), files, null, List.of("-nowarn"), null, List.of(file)).call();
        if (!fine) return null;
        Map<String, byte[]> classes = new HashMap<>();
        out.forEach((name, b) -> classes.put(name, b.toByteArray()));
        return classes;
    }
}
