import java.lang.reflect.Constructor;
import java.lang.reflect.Field;
import java.lang.reflect.Method;
import java.lang.reflect.Modifier;
import java.nio.file.Files;
import java.nio.file.Path;
import java.util.ArrayList;
import java.util.Arrays;
import java.util.List;
import java.util.Set;
import java.util.TreeSet;
import java.util.regex.Matcher;
import java.util.regex.Pattern;

/** The face as the document has it (rule 1), and what LANGUAGE.md says of the text itself; RulesTest has the rest. */
public final class LanguageTest {
    private static final String[] FACE = {
        "int part(int)", "int parts(int,int,int)", "int mend(int,int,int)", "int find(int,int)", "int of(int,int)",
        "int feed(int)", "int law(int)", "int number(int,int)", "long likely(int,int)", "int percent(int)",
        "int likeliest(int)", "int when(int,int)", "int whole(int)", "int odd()", "int next(int)",
        "int named(int,int)", "int plan(int,int)", "int believed(int,int)", "int cheapest(int,int,int)",
        "int spoils(int,int)", "int price(int)", "int paper(int,int)", "int papers(int)", "int house(int)",
        "int drawn(int,int,int)", "int image()", "int back()", "int undo()", "int redo()", "int body(int)",
        "int act(int,int,int)", "int trace(int)", "int keep(int,int)", "int row(int,int,int)",
        "int put(int,int,long)", "long element(int,int)", "int shift(int,int,int,int,int)", "int taken(int,int)",
        "int count(int)",
    };
    private static final String[] CONSTANTS = {"BAD", "NOT", "FULL", "STATE", "VOID"};
    private static final String[] FORBIDDEN = {
        "throw", "throws", "try", "catch", "finally", "synchronized", "assert", "->", "::", "volatile", "native",
        "Object", "equals", "hashCode", "toString", "System.out", "System.exit", "Random", "Exact", "Thread",
        "currentTimeMillis", "nanoTime", "NaN", "record", "package",
    };
    private static int wrong = 0;

    private static void check(boolean holds, String what) {
        if (!holds) {
            wrong++;
            System.out.println(what);
        }
    }

    public static void main(String[] args) throws Exception {
        face();
        source(Files.readString(Path.of("src/main/java/ChairOld.java")));
        System.out.println(wrong == 0 ? "the rules hold" : wrong + " rules do not hold");
        if (wrong != 0) {
            System.exit(1);
        }
    }

    private static void face() {
        Set<String> due = new TreeSet<>(Arrays.asList(FACE));
        Set<String> got = new TreeSet<>();
        Set<String> privates = new TreeSet<>();
        Set<String> publics = new TreeSet<>();
        for (Method m : ChairOld.class.getDeclaredMethods()) {
            if (Modifier.isPublic(m.getModifiers())) {
                List<String> types = new ArrayList<>();
                Arrays.stream(m.getParameterTypes()).forEach(t -> types.add(t.getName()));
                got.add(m.getReturnType().getName() + " " + m.getName() + "(" + String.join(",", types) + ")");
                publics.add(m.getName());
                check(!Modifier.isStatic(m.getModifiers()), "rule 1: static " + m);
            } else {
                check(Modifier.isPrivate(m.getModifiers()), "rule 1: " + m);
                privates.add(m.getName());
            }
        }
        for (Class<?> inside : ChairOld.class.getDeclaredClasses()) {
            Arrays.stream(inside.getDeclaredMethods()).forEach(m -> privates.add(m.getName()));
        }
        check(due.equals(got), "the face is " + got);
        privates.retainAll(publics);
        check(privates.isEmpty(), "rule 1: named like public ones: " + privates);
        for (Field f : ChairOld.class.getDeclaredFields()) {
            boolean isConstant = Arrays.asList(CONSTANTS).contains(f.getName());
            check(isConstant == Modifier.isPublic(f.getModifiers()), "rule 1: " + f);
            check(isConstant || Modifier.isPrivate(f.getModifiers()), "rule 1: " + f);
        }
        Constructor<?>[] made = ChairOld.class.getDeclaredConstructors();
        check(made.length == 1 && Modifier.isPublic(made[0].getModifiers()), "rule 1: constructors");
        check(Modifier.isFinal(ChairOld.class.getModifiers()), "rule 1: final");
    }

    private static void source(String text) {
        String code = text.replaceAll("(?s)/\\*.*?\\*/", "").replaceAll("//[^\n]*", "");
        for (String word : FORBIDDEN) {
            boolean isWord = Character.isLetter(word.charAt(0));
            Matcher m = Pattern.compile(isWord ? "\\b" + Pattern.quote(word) + "\\b" : Pattern.quote(word)).matcher(code);
            check(!m.find(), "rules 3 to 6: " + word);
        }
        check(text.chars().allMatch(c -> c == '\n' || c >= 32 && c < 127), "rule 4: signs 1 to 127");
        check(text.lines().noneMatch(l -> l.length() > 120), "long lines");
        Matcher imports = Pattern.compile("import ([^;]*);").matcher(code);
        while (imports.find()) {
            check(imports.group(1).equals("java.util.Arrays"), "rule 4: " + imports.group(1));
        }
    }
}
