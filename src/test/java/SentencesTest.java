import java.lang.reflect.Method;
import java.nio.file.Files;
import java.nio.file.Path;
import java.util.ArrayList;
import java.util.List;

/** Holds the tests of boundary cases against the document: their words stand there, and no promise is without one. */
public final class SentencesTest {
    private static final int PROMISES = 57;
    private static int wrong;

    public static void main(String[] args) throws Exception {
        Path document = Path.of("../shared/DOC.md");
        if (!Files.exists(document)) {
            System.out.println("the document is not here: its words can't be looked up");
            return;
        }
        List<String> sections = sections(Files.readString(document));
        List<boolean[]> looked = new ArrayList<>();
        for (String section : sections) looked.add(new boolean[section.length()]);
        int[] tests = new int[PROMISES + 1];
        for (Class<?> c : Boundaries.ALL) {
            for (Method m : Boundaries.testsOf(c)) {
                Says says = m.getAnnotation(Says.class);
                tests[says.of()]++;
                for (String words : says.value()) lookAt(c.getSimpleName() + "." + m.getName(), sections.get(says.of()), words, looked.get(says.of()));
            }
        }
        for (int promise = 0; promise <= PROMISES; promise++) if (tests[promise] == 0) broken("promise " + promise + " has no boundary test");
        if (args.length > 0) for (int i = 0; i <= PROMISES; i++) tellLeft(i, sections.get(i), looked.get(i));
        System.out.println(wrong == 0 ? "each promise has its boundary tests" : wrong + " are wrong");
        if (wrong != 0) System.exit(1);
    }

    private static void broken(String what) {
        wrong++;
        System.out.println(what);
    }

    /** The Terms (with what stands ahead of them), then each promise, blanks folded. */
    private static List<String> sections(String document) {
        List<String> found = new ArrayList<>();
        for (String part : document.split("## (Promise|Not promised)")) {
            if (found.size() <= PROMISES) found.add(part.replaceAll("```(java|text)?", " ").replaceAll("\\s+", " "));
        }
        return found;
    }

    private static void lookAt(String test, String section, String words, boolean[] looked) {
        int at = section.indexOf(words.replaceAll("\\s+", " "));
        if (at < 0) broken(test + ": the document does not say so: " + words);
        for (int i = Math.max(at, 0); at >= 0 && i < at + words.length(); i++) looked[i] = true;
    }

    /** For whoever reads the document again: what no test looks at. */
    private static void tellLeft(int promise, String section, boolean[] looked) {
        StringBuilder left = new StringBuilder();
        for (int i = 0; i < section.length(); i++) {
            if (!looked[i]) left.append(section.charAt(i));
            else if (i > 0 && !looked[i - 1]) left.append(" [..] ");
        }
        System.out.println(promise + ": " + left);
    }
}
