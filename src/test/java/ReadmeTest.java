import java.io.ByteArrayOutputStream;
import java.io.PrintStream;
import java.net.URL;
import java.net.URLClassLoader;
import java.nio.file.Files;
import java.nio.file.Path;
import java.util.regex.Matcher;
import java.util.regex.Pattern;
import javax.tools.ToolProvider;

/** What README.md shows compiles, and prints what README.md says; each call of the face is named there. */
public final class ReadmeTest {
    public static void main(String[] args) throws Exception {
        String readme = Files.readString(Path.of("README.md"));
        Matcher m = Pattern.compile("```java\n(.*?)```\n+```text\n(.*?)```", Pattern.DOTALL).matcher(readme);
        boolean fine = m.find();
        if (!fine) System.out.println("README.md shows no example with what it prints");
        if (fine) {
            String got = printed(m.group(1));
            fine = got.equals(m.group(2));
            if (!fine) System.out.println("the example of README.md prints:\n" + got);
        }
        for (var method : MurmurHall.class.getDeclaredMethods()) {
            boolean face = java.lang.reflect.Modifier.isPublic(method.getModifiers());
            if (face && !Pattern.compile("`" + method.getName() + "(\\(\\w*\\))?`").matcher(readme).find()) {
                fine = false;
                System.out.println("README.md does not name " + method.getName());
            }
        }
        System.out.println(fine ? "README.md tells the truth" : "README.md is wrong");
        if (!fine) System.exit(1);
    }

    private static String printed(String example) throws Exception {
        Path dir = Files.createTempDirectory("readme");
        Path file = dir.resolve("Example.java");
        Files.writeString(file, example);
        int code = ToolProvider.getSystemJavaCompiler().run(null, null, null, "-d", dir.toString(), "-cp", System.getProperty("java.class.path"), file.toString());
        if (code != 0) return "it does not compile";
        ByteArrayOutputStream bytes = new ByteArrayOutputStream();
        PrintStream before = System.out;
        try (URLClassLoader loader = new URLClassLoader(new URL[] {dir.toUri().toURL()})) {
            System.setOut(new PrintStream(bytes));
            loader.loadClass("Example").getMethod("main", String[].class).invoke(null, (Object) new String[0]);
        } finally {
            System.setOut(before);
            try (var files = Files.list(dir)) {
                for (Path p : (Iterable<Path>) files::iterator) Files.delete(p);
            }
            Files.delete(dir);
        }
        return bytes.toString();
    }
}
