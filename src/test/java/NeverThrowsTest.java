import java.lang.reflect.InvocationTargetException;
import java.lang.reflect.Method;
import java.lang.reflect.Modifier;
import java.util.ArrayList;
import java.util.Arrays;
import java.util.Comparator;
import java.util.List;
import java.util.Random;

/** Any arguments in any state, far beyond 512 calls: what is answered is free there, but no call may throw. */
public final class NeverThrowsTest {
    private static final int[] EDGES = {
        Integer.MIN_VALUE, Integer.MIN_VALUE + 1, Integer.MAX_VALUE, Integer.MAX_VALUE - 1, -1, -2, 60, 61, 63, 64, 99,
    };

    public static void main(String[] args) throws Exception {
        Random random = new Random(11);
        List<Method> methods = new ArrayList<>(Arrays.asList(ChairOld.class.getDeclaredMethods()));
        methods.removeIf(m -> !Modifier.isPublic(m.getModifiers()));
        methods.sort(Comparator.comparing(Method::getName));
        for (int object = 0; object < 20; object++) {
            ChairOld x = new ChairOld();
            for (int i = 0; i < 5000; i++) {
                Method m = methods.get(random.nextInt(methods.size()));
                Object[] arguments = new Object[m.getParameterCount()];
                for (int k = 0; k < arguments.length; k++) {
                    int v = random.nextInt(3) > 0 ? random.nextInt(12) - 1
                        : random.nextBoolean() ? EDGES[random.nextInt(EDGES.length)] : random.nextInt();
                    arguments[k] = m.getParameterTypes()[k] == long.class ? (Object) (long) v : (Object) v;
                }
                try {
                    m.invoke(x, arguments);
                } catch (InvocationTargetException e) {
                    System.out.println(m.getName() + Arrays.toString(arguments) + " threw " + e.getCause());
                    System.exit(1);
                }
            }
        }
        System.out.println("no call threw");
    }
}
