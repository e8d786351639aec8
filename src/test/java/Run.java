import java.lang.reflect.Method;
import java.lang.reflect.Modifier;
import java.util.ArrayList;
import java.util.HashMap;
import java.util.List;
import java.util.Map;
import java.util.regex.Matcher;
import java.util.regex.Pattern;

/** One object and the calls made on it, told as text, so that they can be made again on a twin. */
final class Run {
    private static final int MOST_CALLS = 512;
    private static final Pattern CALL = Pattern.compile("(\\w+)\\((.*)\\)");
    private static final Map<String, Method> METHODS = methods();

    private final ChairOld chair = new ChairOld();
    private final List<String> made = new ArrayList<>();
    private List<String> seen = List.of();
    private int seenAt = -1;

    private static Map<String, Method> methods() {
        Map<String, Method> all = new HashMap<>();
        for (Method m : ChairOld.class.getDeclaredMethods()) {
            if (Modifier.isPublic(m.getModifiers())) {
                all.put(m.getName(), m);
            }
        }
        return all;
    }

    long answer(String call) {
        made.add(call);
        // Beyond them all answers are free: a test that goes there would ask too much.
        if (made.size() > MOST_CALLS) {
            throw new IllegalStateException("a run of more than 512 calls");
        }
        Matcher parsed = CALL.matcher(call);
        if (!parsed.matches() || !METHODS.containsKey(parsed.group(1))) {
            throw new IllegalArgumentException("no such call: " + call);
        }
        Method method = METHODS.get(parsed.group(1));
        String[] told = parsed.group(2).isEmpty() ? new String[0] : parsed.group(2).split(", ");
        Object[] arguments = new Object[told.length];
        for (int i = 0; i < told.length; i++) {
            boolean isLong = method.getParameterTypes()[i] == long.class;
            arguments[i] = isLong ? (Object) Long.parseLong(told[i]) : (Object) Integer.parseInt(told[i]);
        }
        try {
            return ((Number) method.invoke(chair, arguments)).longValue();
        } catch (ReflectiveOperationException e) {
            throw new IllegalStateException(call + " threw " + e.getCause());
        }
    }

    int callsMade() {
        return made.size();
    }

    Run due(long want, String call) {
        long got = answer(call);
        if (got != want) {
            Edges.fail(call + " answered " + got + ", due is " + want);
        }
        return this;
    }

    /** The same answer for each of the values at the place of _ in the call. */
    Run each(long want, String call, long... values) {
        for (String one : filled(call, values)) {
            due(want, one);
        }
        return this;
    }

    /** Calls that set the stage: none of them may be refused. */
    Run made(String... calls) {
        for (String call : calls) {
            if (answer(call) < 0 && !call.startsWith("act")) {
                Edges.fail(call + " was refused");
            }
        }
        return this;
    }

    Run fed(String text) {
        for (int i = 0; i < text.length(); i++) {
            made("feed(" + (int) text.charAt(i) + ")");
        }
        return this;
    }

    Run law(int mark, String text) {
        return fed(text).due(1, "law(" + mark + ")");
    }

    Run noBelief() {
        for (int kind = 0; kind < 6; kind++) {
            made("mend(" + kind + ", 0, 0)");
        }
        return this;
    }

    /** Only so much belief in the kinds, the others have none. */
    Run beliefs(int... told) {
        for (int kind = 0; kind < 6; kind++) {
            made("mend(" + kind + ", 0, " + (kind < told.length ? told[kind] : 0) + ")");
        }
        return this;
    }

    Run bytesOn(int shelf, int... bytes) {
        made("row(" + shelf + ", 0, " + bytes.length + ")");
        for (int i = 0; i < bytes.length; i++) {
            made("put(" + shelf + ", " + i + ", " + bytes[i] + ")");
        }
        return this;
    }

    Run elements(int shelf, long... want) {
        for (int i = 0; i < want.length; i++) {
            due(want[i], "element(" + shelf + ", " + i + ")");
        }
        return this;
    }

    Run traced(int... bodies) {
        due(bodies.length, "count(6)");
        for (int i = 0; i < bodies.length; i++) {
            due(bodies[i], "trace(" + i + ")");
        }
        return due(-1, "trace(" + bodies.length + ")");
    }

    /** Each call is tried on a twin of its own: it answers so, and all that can be seen is as without it. */
    Run refused(long want, String call, long... values) {
        for (String one : filled(call, values)) {
            Run tried = twin();
            tried.due(want, one);
            sameAs(tried, one);
        }
        return this;
    }

    /** What can be seen of the other object, which had one call more, is what can be seen of this one. */
    void sameAs(Run tried, String call) {
        List<String> without = seenOfTwin();
        List<String> with = Seen.of(tried);
        for (int i = 0; i < Math.max(without.size(), with.size()); i++) {
            String left = i < without.size() ? without.get(i) : "nothing";
            String right = i < with.size() ? with.get(i) : "nothing";
            if (!left.equals(right)) {
                Edges.fail(call + " changed something: then " + right + ", without it " + left);
                return;
            }
        }
    }

    /** Kept until the next call: many calls are tried at the same place. */
    private List<String> seenOfTwin() {
        if (seenAt != made.size()) {
            seen = Seen.of(twin());
            seenAt = made.size();
        }
        return seen;
    }

    Run twin() {
        Run twin = new Run();
        made.forEach(twin::answer);
        return twin;
    }

    private static List<String> filled(String call, long... values) {
        if (!call.contains("_")) {
            return List.of(call);
        }
        List<String> all = new ArrayList<>();
        for (long value : values) {
            all.add(call.replace("_", String.valueOf(value)));
        }
        return all;
    }
}
