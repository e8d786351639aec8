import java.io.IOException;
import java.lang.reflect.Method;
import java.lang.reflect.Modifier;
import java.net.URL;
import java.net.URLClassLoader;
import java.nio.file.Files;
import java.nio.file.Path;
import java.util.Comparator;
import java.util.regex.Matcher;
import java.util.regex.Pattern;
import java.util.stream.Stream;
import javax.tools.ToolProvider;

/** README.md: each call in its Java answers the number that stands behind it, and each call of the face is named. */
public final class ReadmeTest {
    private static final Pattern BLOCK = Pattern.compile("(?s)```java\n(.*?)```");
    private static final Pattern ANSWERED = Pattern.compile("(?m)^((?:int \\w+ = )?)(chair\\.(.*)); +// (-?\\d+)\\b.*$");
    private static int wrong = 0;

    public static void main(String[] args) throws Exception {
        String readme = Files.readString(Path.of("README.md"));
        namesAllCalls(readme);
        StringBuilder code = new StringBuilder();
        Matcher blocks = BLOCK.matcher(readme);
        while (blocks.find()) {
            code.append(blocks.group(1));
        }
        Path room = Files.createTempDirectory("readme");
        try {
            run(room, code.toString());
        } finally {
            clear(room);
        }
        System.out.println(wrong == 0 ? "README.md tells what is so" : wrong + " things in README.md are not so");
        if (wrong != 0) {
            System.exit(1);
        }
    }

    /** What the program made of README.md calls for each answer. */
    public static long due(String call, long got, long due) {
        if (got != due) {
            wrong++;
            System.out.println(call + " answers " + got + ", README.md says " + due);
        }
        return got;
    }

    private static void fail(String what) {
        wrong++;
        System.out.println(what);
    }

    private static void namesAllCalls(String readme) {
        for (Method call : ChairOld.class.getDeclaredMethods()) {
            boolean isNamed = Pattern.compile("\\b" + call.getName() + "\\(").matcher(readme).find();
            if (Modifier.isPublic(call.getModifiers()) && !isNamed) {
                fail("README.md does not name " + call.getName());
            }
        }
    }

    private static void run(Path room, String code) throws Exception {
        Matcher answered = ANSWERED.matcher(code);
        long answers = answered.results().count();
        String told = answered.replaceAll(m -> Matcher.quoteReplacement(m.group(1) + "(int) ReadmeTest.due(\""
            + m.group(3) + "\", " + m.group(2) + ", " + m.group(4) + ");")).replaceAll("(?m)^\\(int\\) ", "");
        Path source = room.resolve("Told.java");
        Files.writeString(source, "public class Told {\npublic static void main(String[] args) {\n" + told + "}\n}\n");
        int failed = ToolProvider.getSystemJavaCompiler().run(null, null, null, "-d", room.toString(), "-cp",
            System.getProperty("java.class.path"), source.toString());
        if (failed != 0 || answers == 0) {
            fail("README.md has no Java that compiles and answers");
            return;
        }
        try (URLClassLoader loader = new URLClassLoader(new URL[] {room.toUri().toURL()})) {
            loader.loadClass("Told").getMethod("main", String[].class).invoke(null, (Object) new String[0]);
        }
    }

    private static void clear(Path room) throws IOException {
        try (Stream<Path> all = Files.walk(room)) {
            for (Path path : (Iterable<Path>) all.sorted(Comparator.reverseOrder())::iterator) {
                Files.delete(path);
            }
        }
    }
}
