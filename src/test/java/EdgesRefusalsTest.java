import java.lang.reflect.Method;
import java.lang.reflect.Modifier;
import java.util.ArrayList;
import java.util.Comparator;
import java.util.List;
import java.util.Set;

/** 'What is answered so changes nothing': every call with every edge of its arguments, on an object that has all. */
public final class EdgesRefusalsTest {
    private static final Set<String> ASKING = Set.of("of", "number", "likely", "percent", "likeliest", "when", "whole",
        "odd", "next", "named", "plan", "believed", "cheapest", "spoils", "price", "papers", "house", "drawn", "trace",
        "element", "taken", "count");
    private static final long[][] FEW = {{}, {}, {-1, 0, 1, 5, 6}, {-1, 0, 3}, {}, {0, 3}};
    private static final long[] MANY = {
        Integer.MIN_VALUE, -1000, -101, -100, -11, -10, -2, -1, 0, 1, 2, 3, 4, 5, 6, 7, 8, 9, 10, 16, 29, 30, 31, 36, 40,
        54, 55, 60, 61, 63, 64, 80, 99, 100, 101, 255, 256, 600, 2930, 3000, 4000, 8000, Integer.MAX_VALUE,
    };

    public static void main(String[] args) {
        Edges.run(EdgesRefusalsTest.class);
    }

    private static List<Method> calls() {
        List<Method> all = new ArrayList<>();
        for (Method m : ChairOld.class.getDeclaredMethods()) {
            if (Modifier.isPublic(m.getModifiers())) {
                all.add(m);
            }
        }
        all.sort(Comparator.comparing(Method::getName));
        return all;
    }

    /** One argument goes through many edges, the others through few: the fewer, the more of them there are. */
    private static void fill(Method m, String told, int place, int wide, List<String> all) {
        if (place == m.getParameterCount()) {
            all.add(m.getName() + "(" + told + ")");
            return;
        }
        for (long value : place == wide ? MANY : FEW[m.getParameterCount()]) {
            fill(m, told + (place == 0 ? "" : ", ") + value, place + 1, wide, all);
        }
    }

    private static List<String> callsOf(Method m) {
        List<String> all = new ArrayList<>();
        for (int wide = 0; wide < Math.max(1, m.getParameterCount()); wide++) {
            fill(m, "", 0, wide, all);
        }
        return all;
    }

    /** law() with a FAULT is told to empty the tape; what act() answers is no refusal. */
    private static boolean isRefusal(String name, long answer) {
        return !name.equals("act") && (answer >= -14 && answer < 0 || answer == Long.MIN_VALUE);
    }

    private static void sweep(Run state) {
        for (Method m : calls()) {
            for (String call : callsOf(m)) {
                Run tried = state.twin();
                long answer = tried.answer(call);
                if (ASKING.contains(m.getName()) || isRefusal(m.getName(), answer)) {
                    state.sameAs(tried, call);
                }
            }
        }
    }

    @Holds(promise = Holds.TERMS, says = "What is answered so changes nothing.")
    static void noRefusedCallAndNoneThatOnlyAsksChangesAnything() {
        sweep(Edges.withAll());
    }

    @Holds(promise = Holds.TERMS, says = "What is answered so changes nothing.")
    static void norOnANewObject() {
        sweep(new Run());
    }

    @Holds(promise = Holds.TERMS, says = "What is answered so changes nothing.")
    static void norWhereAllIsFull() {
        Run full = Edges.withParts(0, 11, 22, 33, 44, 55, 66, 77);
        for (int i = 0; i < 50; i++) {
            full.made("body(" + i % 8 + ")");
        }
        for (int i = 0; i < 10; i++) {
            full.made("paper(" + 303 * i + ", " + i + ")");
        }
        sweep(full);
    }
}
