import java.io.IOException;
import java.lang.reflect.Method;
import java.nio.file.Files;
import java.nio.file.Path;
import java.util.regex.Matcher;
import java.util.regex.Pattern;

/** Each sentence that a test holds stands in the document, and no word of Terms and promises is without a test. */
public final class EdgesSentencesTest {
    private static final int PROMISES = 40;
    private static final Class<?>[] TESTS = {
        EdgesTimesTest.class, EdgesLawTest.class, EdgesWeighingTest.class, EdgesLookingTest.class,
        EdgesPapersTest.class, EdgesActsTest.class, EdgesShelvesTest.class, EdgesPartsTest.class,
        EdgesRefusalsTest.class,
    };

    public static void main(String[] args) throws IOException {
        String document = Files.readString(Path.of("../shared/DOC.md"));
        for (int promise = Holds.WHAT_IT_IS; promise <= PROMISES; promise++) {
            String text = textOf(document, promise);
            boolean[] held = held(text, promise);
            if (promise != Holds.WHAT_IT_IS) {
                tellOpenWords(text, held, promise);
            }
        }
        Edges.end("each sentence has its test");
    }

    private static String textOf(String document, int promise) {
        String heading = promise == Holds.WHAT_IT_IS ? "## What it is" : promise == Holds.TERMS ? "## Terms"
            : "## Promise " + promise + ":[^\n]*";
        Matcher m = Pattern.compile("(?s)(?:^|\n)" + heading + "\n(.*?)(?:\n## |\nAhead of the calls |$)")
            .matcher(document);
        if (!m.find()) {
            Edges.fail(Edges.nameOf(promise) + " is not in the document");
            return "";
        }
        // What is no sentence: the call's face, fences, the lines that number the parts of Terms.
        String text = m.group(1).replaceAll("`[^`\n]+\\)`:", " ").replaceAll("```(text)?", " ")
            .replaceAll("={8} \\d", " ");
        return text.replaceAll("\\s+", " ");
    }

    /** Marks each sign of the text that stands in a test's sentence. */
    private static boolean[] held(String text, int promise) {
        boolean[] held = new boolean[text.length()];
        for (Class<?> tests : TESTS) {
            for (Method test : Edges.testsOf(tests)) {
                Holds holds = test.getAnnotation(Holds.class);
                if (holds.promise() == promise) {
                    mark(text, holds.says(), held, test.getName());
                }
            }
        }
        return held;
    }

    private static void mark(String text, String says, boolean[] held, String test) {
        int at = text.indexOf(says);
        if (at < 0) {
            Edges.fail(test + " holds what the document does not say there: " + says);
        }
        for (int i = 0; at >= 0 && i < says.length(); i++) {
            held[at + i] = true;
        }
    }

    private static void tellOpenWords(String text, boolean[] held, int promise) {
        StringBuilder open = new StringBuilder();
        for (int i = 0; i < text.length(); i++) {
            if (!held[i]) {
                open.append(text.charAt(i));
            }
        }
        if (Pattern.compile("\\w").matcher(open).find()) {
            Edges.fail(Edges.nameOf(promise) + " has words without a test: " + open.toString().trim());
        }
    }
}
