import java.lang.reflect.Constructor;
import java.lang.reflect.Field;
import java.lang.reflect.Method;
import java.lang.reflect.Modifier;
import java.nio.file.Files;
import java.nio.file.Path;
import java.util.ArrayList;
import java.util.Arrays;
import java.util.HashSet;
import java.util.List;
import java.util.Set;
import java.util.regex.Matcher;
import java.util.regex.Pattern;

/** The face, and the rules of LANGUAGE.md that can be read off the class and its source. */
public final class LanguageTest {
    private static final String[] FACE = {
        "int status()", "long top()", "long bottom()", "boolean tray(int,int,int)", "boolean write(int,int,long)",
        "long read(int,int)", "boolean pour(int,int,int,int,int)", "int feed(int,int,int,int,int)", "int hall(int)",
        "int mornings(int)", "int fault(int)", "int told(int)", "int way(int,int)", "int slate(int)", "int caller(int,int)",
        "int cry(int,int,int)", "int call(int,int)", "int say(int,int,int)", "int hush(int)", "int walk(int,int)",
        "int hang(int,int)", "boolean pave(int,int,int)", "int teach(int,int,int,int)", "boolean rule(int)", "int record()",
        "int scrawl(int,int,int)", "int far(int,int)", "int lost(int,int)", "int heard(int,int)", "int from(int,int)",
        "int first(int)", "int last(int)", "int loudest(int)", "int all(int)", "int recorded(int,int)", "int differs()",
        "int copyHeard(int,int,int,int)", "int answers(int)", "int answerAt(int,int)", "int with(int,int,int,int)",
        "int fewest()", "int slips(int)", "int slipsAt(int,int)", "int moved()", "int movedAt(int,int)",
        "int alike(int,int,int,int)", "int parts(int)", "int hanging()", "int hangingSet()", "boolean chance(int,int,int)",
        "boolean quiet(int)", "int live(int)", "int lived(int)", "boolean mean(int,int)", "int mark()", "int undo()"};

    private static int wrong;

    private static void must(boolean holds, String what) {
        if (!holds) {
            wrong++;
            System.out.println("broken: " + what);
        }
    }

    public static void main(String[] args) throws Exception {
        face();
        classes();
        source(Files.readString(Path.of("src/main/java/MurmurHall.java")));
        System.out.println(wrong == 0 ? "the rules are kept" : wrong + " rules are broken");
        if (wrong != 0) System.exit(1);
    }

    private static void face() {
        Class<?> c = MurmurHall.class;
        must(Modifier.isPublic(c.getModifiers()) && Modifier.isFinal(c.getModifiers()), "the class is public and final");
        List<String> found = new ArrayList<>();
        for (Method m : c.getDeclaredMethods()) {
            List<String> types = new ArrayList<>();
            for (Class<?> t : m.getParameterTypes()) types.add(t.getName());
            String told = m.getReturnType().getName() + " " + m.getName() + "(" + String.join(",", types) + ")";
            if (Modifier.isPublic(m.getModifiers())) found.add(told);
            else must(Modifier.isPrivate(m.getModifiers()), told + " is public or private");
        }
        must(new HashSet<>(found).equals(new HashSet<>(Arrays.asList(FACE))), "the methods are those of the document");
        for (Constructor<?> k : c.getDeclaredConstructors()) must(Modifier.isPublic(k.getModifiers()) && k.getParameterCount() == 0, "one constructor");
        for (Field f : c.getDeclaredFields()) must(f.getName().equals("NONE") != Modifier.isPrivate(f.getModifiers()), f.getName() + " is private but for NONE");
        must(MurmurHall.NONE == -1, "NONE is -1");
    }

    private static void classes() {
        Set<String> face = new HashSet<>();
        for (String f : FACE) face.add(f.substring(f.indexOf(' ') + 1, f.indexOf('(')));
        List<Class<?>> all = new ArrayList<>(Arrays.asList(MurmurHall.class.getDeclaredClasses()));
        must(all.size() < 12, "at most some twelve classes");
        for (Class<?> c : all) {
            must(Modifier.isStatic(c.getModifiers()), c.getName() + " is static");
            for (Method m : c.getDeclaredMethods()) must(!face.contains(m.getName()), c.getName() + "." + m.getName() + " bears a public name");
        }
        all.add(MurmurHall.class);
        for (Class<?> c : all) {
            int fields = 0;
            for (Field f : c.getDeclaredFields()) {
                if (!Modifier.isStatic(f.getModifiers())) fields++;
                else must(Modifier.isFinal(f.getModifiers()), f + " is final");
            }
            must(fields <= 21, c.getName() + " has " + fields + " fields");
            for (Method m : c.getDeclaredMethods()) must(m.getParameterCount() <= 7, m.getName() + " has at most seven parameters");
        }
    }

    private static void source(String source) {
        String code = source.replaceAll("(?s)/\\*.*?\\*/", " ").replaceAll("//[^\n]*", " ");
        for (String word : List.of("throw", "try", "catch", "synchronized", "assert", "native", "volatile", "double", "float", "equals",
            "hashCode", "toString", "interface", "abstract", "extends", "protected", "package", "var", "Object", "Thread", "Random"))
            must(!Pattern.compile("\\b" + word + "\\b").matcher(code).find(), "no " + word);
        must(!code.contains("->") && !code.contains("::"), "no lambda, no method reference");
        Matcher calls = Pattern.compile("\\b(System|Arrays|Math|Integer|Long|String)\\.(\\w+)").matcher(code);
        Set<String> library = Set.of("System.arraycopy", "Arrays.fill", "Math.max", "Math.min", "Math.abs", "Integer.bitCount", "Integer.numberOfTrailingZeros");
        while (calls.find()) must(library.contains(calls.group()), calls.group() + " is of the library");
        Matcher imports = Pattern.compile("import ([\\w.]+);").matcher(code);
        while (imports.find()) must(imports.group(1).equals("java.util.Arrays"), "import " + imports.group(1));
        must(!Pattern.compile("while \\(true\\)|for \\(;;\\)").matcher(code).find(), "every loop has an end");
        methodLengths(source);
        newOnlyInFields(code);
        for (int i = 0; i < source.length(); i++) must(source.charAt(i) < 128, "plain signs alone");
    }

    /** A method begins and ends on lines of one indentation, 4 in the class and 8 in those inside. */
    private static void methodLengths(String source) {
        String[] lines = source.split("\n");
        for (int i = 0; i < lines.length; i++) {
            Matcher m = Pattern.compile("^( {4}| {8})(?! )[^=;]*\\(.*\\) \\{$").matcher(lines[i]);
            if (!m.find()) continue;
            int end = i;
            while (end < lines.length && !lines[end].equals(m.group(1) + "}")) end++;
            must(end - i <= 60, "a method of " + (end - i) + " lines: " + lines[i].trim());
        }
    }

    /** No call makes an object: every 'new' stands in a field's initialiser. */
    private static void newOnlyInFields(String code) {
        for (String line : code.split("\n"))
            if (line.contains("new ")) must(line.matches("^ {4,8}(private )?final [\\w\\[\\]]+ \\w+ = new .*;\\s*$"), "made in a field alone: " + line.trim());
    }
}
