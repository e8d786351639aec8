import java.lang.reflect.Method;
import java.util.ArrayList;
import java.util.Comparator;
import java.util.List;
import java.util.Random;

/** Runs of up to 512 calls, drawn by fixed seeds, on ChairOld and on the plain model: like answers. */
public final class RandomRunsTest {
    private static final String[] LAWS = {
        "k=0?90-y;k=3?y*3;40", "y<20&k<3?80;15+w", "k=4?70;y>19?5;60-p*3", "(k=1)*50+20", "0", "100", "50",
        "k*20", "100-k*17", "y*3", "w*11-p", "k=w%6", "(k=0)*99+(k=1)*1", "y>9&y<15?99;1", "-5+!(y-7)*100",
        "k=0?y*7%101;k=1?100-y;y/3*k", "9999*9999*9999", "5%0+7/0+w*p", "!!!---y", "((((((y))))))", "k<1?0",
        "y=w*3?100;0", "y=p*3?97;2", "k=0&(y=w*3)?90;k=0?1;20", "y<w|k=2&p>4?66;33", "1?2;3",
    };
    private static final String BYTES = "ykwp0123456789+-*/%<=>!&|()?;()yk1";

    private final Random random;
    private final ChairOld real = new ChairOld();
    private final PlainModel plain = new PlainModel();
    private final List<String> told = new ArrayList<>();
    private int wrong = 0;

    private RandomRunsTest(long seed) {
        random = new Random(seed);
    }

    public static void main(String[] args) throws Exception {
        int runs = args.length > 0 ? Integer.parseInt(args[0]) : 150;
        long first = args.length > 1 ? Long.parseLong(args[1]) : 1;
        List<Method> methods = new ArrayList<>();
        for (Method m : ChairOld.class.getDeclaredMethods()) {
            if (java.lang.reflect.Modifier.isPublic(m.getModifiers())) {
                methods.add(m);
            }
        }
        methods.sort(Comparator.comparing(Method::getName));
        int wrong = methods.size() == 39 ? 0 : 1;
        for (int run = 0; run < runs && wrong < 5; run++) {
            wrong += new RandomRunsTest(first + run).run(methods);
        }
        System.out.println(wrong == 0 ? "all runs agree" : wrong + " runs do not agree");
        if (wrong != 0) {
            System.exit(1);
        }
    }

    private int run(List<Method> methods) throws Exception {
        int ways = random.nextInt(3);
        // Slow calls of the plain model come seldom; the first calls set the stage.
        for (int i = 0; i < 512 && wrong == 0; i++) {
            int pick = random.nextInt(100);
            if (ways != 0 && (i < 12 || pick < 4)) {
                stage(i, methods);
            } else {
                Method m = methods.get(random.nextInt(methods.size()));
                boolean slow = m.getName().equals("plan") || m.getName().equals("cheapest");
                if (!slow || random.nextInt(12) == 0) {
                    call(m, argumentsOf(m));
                }
            }
        }
        return wrong;
    }

    private static Method byName(List<Method> methods, String name) {
        return methods.stream().filter(m -> m.getName().equals(name)).findFirst().orElseThrow();
    }

    private void stage(int i, List<Method> methods) throws Exception {
        if (i % 2 == 0) {
            String text = random.nextInt(4) == 0 ? scribble() : LAWS[random.nextInt(LAWS.length)];
            for (int b = 0; b < text.length() && wrong == 0; b++) {
                call(byName(methods, "feed"), (int) text.charAt(b));
            }
            call(byName(methods, "law"), random.nextInt(6));
        } else if (random.nextBoolean()) {
            call(byName(methods, "part"), random.nextInt(100));
        } else {
            call(byName(methods, "find"), random.nextInt(8) * 10 + random.nextInt(6), random.nextInt(3));
        }
    }

    private String scribble() {
        StringBuilder text = new StringBuilder(LAWS[random.nextInt(LAWS.length)]);
        for (int n = random.nextInt(3); n >= 0 && text.length() > 0; n--) {
            char c = BYTES.charAt(random.nextInt(BYTES.length()));
            int at = random.nextInt(text.length());
            switch (random.nextInt(3)) {
                case 0 -> text.insert(at, c);
                case 1 -> text.setCharAt(at, c);
                default -> text.deleteCharAt(at);
            }
        }
        return text.toString();
    }

    private Object[] argumentsOf(Method m) {
        Object[] arguments = new Object[m.getParameterCount()];
        for (int i = 0; i < arguments.length; i++) {
            int v = argument(m.getName(), i);
            boolean isLong = m.getParameterTypes()[i] == long.class;
            arguments[i] = isLong ? (Object) (random.nextInt(3) == 0 ? random.nextLong() : (long) (v % 12)) : (Object) v;
        }
        return arguments;
    }

    /** Mostly what the document allows, now and then its edges or anything. */
    private int argument(String name, int place) {
        int any = random.nextInt(60);
        if (any == 0) {
            int[] edges = {Integer.MIN_VALUE, Integer.MAX_VALUE, -1, -10, 1 << 30, -1000, 2147483640};
            return edges[random.nextInt(edges.length)];
        }
        if (any == 1) {
            return random.nextInt();
        }
        return switch (name + place) {
            case "find0", "number0", "likely0", "percent0", "when0" -> drawn(0, 6) * 10 + drawn(0, 5);
            case "number1" -> drawn(0, 5) * 100 + drawn(0, 29);
            case "drawn2" -> drawn(0, 6) * 1000 + drawn(0, 5) * 100 + drawn(0, 29);
            case "paper0" -> {
                int from = drawn(0, 29);
                yield from * 100 + Math.min(30, from + random.nextInt(8));
            }
            case "feed0" -> random.nextInt(5) == 0 ? drawn(0, 255) : BYTES.charAt(random.nextInt(BYTES.length()));
            case "of1" -> new int[] {0, 1, 10, 11, 12, 13, 14, 15, 20, 21, 30, 31, drawn(0, 40)}[random.nextInt(13)];
            case "drawn0", "act2" -> random.nextBoolean() ? random.nextInt() : drawn(-3, 9);
            case "part0" -> drawn(0, 99);
            case "mend2" -> random.nextInt(3) == 0 ? drawn(0, 99) : drawn(1, 9);
            case "cheapest1" -> random.nextInt(3) == 0 ? drawn(0, 100) : drawn(5, 30);
            case "mend1", "act1" -> drawn(0, 3);
            case "likely1", "whole0", "papers0", "cheapest2" -> drawn(0, 1);
            case "find1", "when1" -> drawn(0, 2);
            case "mend0", "law0", "parts1" -> drawn(0, 5);
            case "named1", "believed1", "spoils1" -> drawn(0, 63);
            case "plan1" -> random.nextBoolean() ? drawn(0, 54) : drawn(0, 8);
            case "house0" -> drawn(0, 29);
            case "drawn1" -> drawn(1, 30);
            case "row2" -> random.nextInt(5) == 0 ? drawn(0, 60) : drawn(5, 16);
            case "row1" -> random.nextInt(3) != 0 ? 0 : drawn(0, 4);
            case "shift1", "shift3", "shift4", "put1", "element1" -> drawn(0, 5);
            case "parts0", "put0", "element0", "shift0", "shift2", "row0" -> drawn(0, 2);
            case "taken0", "keep0" -> drawn(2, 4);
            case "trace0" -> drawn(0, 5);
            case "taken1", "body0" -> drawn(0, 7);
            case "act0", "keep1" -> drawn(-1, 8);
            default -> drawn(0, 6);
        };
    }

    private int drawn(int least, int most) {
        return random.nextInt(25) == 0 ? (random.nextBoolean() ? least - 1 : most + 1)
            : least + random.nextInt(most - least + 1);
    }

    private void call(Method m, Object... arguments) throws Exception {
        StringBuilder text = new StringBuilder(m.getName()).append(java.util.Arrays.toString(arguments));
        Object due = PlainModel.class.getMethod(m.getName(), m.getParameterTypes()).invoke(plain, arguments);
        Object got = m.invoke(real, arguments);
        told.add(text.append(" -> ").append(got).toString());
        if (!due.equals(got)) {
            wrong = 1;
            told.subList(Math.max(0, told.size() - 60), told.size()).forEach(System.out::println);
            System.out.println("due is " + due);
        }
    }
}
