import java.lang.reflect.InvocationTargetException;
import java.lang.reflect.Method;
import java.util.ArrayList;
import java.util.Comparator;
import java.util.List;

/** Runs every test of a class that bears Holds, and tells by promise and sentence which did not hold. */
final class Edges {
    static final int MIN = Integer.MIN_VALUE;
    static final int MAX = Integer.MAX_VALUE;
    static final long NO_LONG = Long.MIN_VALUE;

    private static String sentence = "";
    private static int wrong = 0;

    private Edges() {
    }

    static void run(Class<?> tests) {
        List<Method> all = testsOf(tests);
        for (Method test : all) {
            Holds holds = test.getAnnotation(Holds.class);
            sentence = nameOf(holds.promise()) + " \"" + holds.says() + "\", " + test.getName();
            test.setAccessible(true);
            try {
                test.invoke(null);
            } catch (InvocationTargetException e) {
                fail("threw " + e.getCause());
            } catch (IllegalAccessException e) {
                fail("can't be called");
            }
        }
        end(all.size() + " sentences hold");
    }

    static List<Method> testsOf(Class<?> tests) {
        List<Method> all = new ArrayList<>();
        for (Method m : tests.getDeclaredMethods()) {
            if (m.isAnnotationPresent(Holds.class)) {
                all.add(m);
            }
        }
        all.sort(Comparator.comparing((Method m) -> m.getAnnotation(Holds.class).promise())
            .thenComparing(Method::getName));
        return all;
    }

    static String nameOf(int promise) {
        return promise > 0 ? "Promise " + promise : promise == Holds.TERMS ? "Terms" : "What it is";
    }

    static void fail(String what) {
        wrong++;
        if (wrong <= 40) {
            System.out.println(sentence + ": " + what);
        }
    }

    static void end(String well) {
        System.out.println(wrong == 0 ? well : wrong + " answers are not as due");
        if (wrong != 0) {
            System.exit(1);
        }
    }

    static Run withParts(int... woodsAndPlaces) {
        Run run = new Run();
        for (int i = 0; i < woodsAndPlaces.length; i++) {
            run.due(i, "part(" + woodsAndPlaces[i] + ")");
        }
        return run;
    }

    static Run withBodiesOfAllKinds() {
        Run run = new Run();
        return run.made("body(0)", "body(1)", "body(2)", "body(3)", "body(4)", "body(5)", "body(6)", "body(7)");
    }

    /** Something of everything that a call can change, so that a refused call has much to spoil. */
    static Run withAll() {
        Run run = withParts(12, 35, 70);
        run.law(0, "k=0?90-y;40").law(1, "y<20?80;w");
        run.made("find(0, 1)", "find(1, 2)", "find(12, 1)", "find(25, 2)", "image()");
        run.made("find(0, 2)", "find(2, 1)", "part(99)", "find(34, 1)");
        run.made("mend(0, 0, 5)", "mend(3, 1, 50)", "mend(1, 2, 4)", "mend(2, 3, 60)", "mend(0, 0, 7)");
        run.made("undo()", "undo()", "paper(305, 2)", "paper(1015, 4)", "paper(1420, 2)");
        run.made("body(0)", "body(5)", "body(7)", "act(2, 3, 4)");
        run.made("row(0, 0, 4)", "put(0, 0, 3)", "put(0, 1, 9)", "put(0, 3, -5)", "row(1, 2, 2)", "put(1, 1, 70000)");
        run.made("row(2, 3, 1)", "put(2, 0, 5000000000)", "keep(3, 2)", "row(4, 0, 0)");
        return run.made("feed(121)", "feed(43)", "feed(51)");
    }
}
