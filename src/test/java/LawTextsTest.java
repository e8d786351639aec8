import java.util.Random;

/** Drawn texts, most of them with a fault or two: FAULT and worth are as PlainLaw has them. */
public final class LawTextsTest {
    private static final String BYTES = "ykwp0123456789+-*/%<=>!&|()?; x";
    private static final String[] JOINING = {"|", "&", "<", "=", ">", "+", "-", "*", "/", "%"};
    private final Random random = new Random(5);

    public static void main(String[] args) {
        int texts = args.length > 0 ? Integer.parseInt(args[0]) : 20000;
        LawTextsTest test = new LawTextsTest();
        int wrong = 0;
        for (int i = 0; i < texts && wrong < 5; i++) {
            wrong += test.holds(test.draw()) ? 0 : 1;
        }
        System.out.println(wrong == 0 ? "all texts agree" : wrong + " texts do not agree");
        if (wrong != 0) {
            System.exit(1);
        }
    }

    private String draw() {
        StringBuilder text = new StringBuilder();
        for (int lines = random.nextInt(3); lines >= 0; lines--) {
            text.append(expression(3));
            text.append(random.nextBoolean() ? "?" + expression(3) : "");
            text.append(lines > 0 ? ";" : "");
        }
        for (int n = random.nextInt(4) - 1; n > 0; n--) {
            int at = random.nextInt(text.length());
            text.replace(at, at + random.nextInt(2), String.valueOf(BYTES.charAt(random.nextInt(BYTES.length()))));
        }
        return text.substring(0, Math.min(120, text.length()));
    }

    private String expression(int deep) {
        StringBuilder e = new StringBuilder(operand(deep));
        for (int n = random.nextInt(3); n > 0; n--) {
            e.append(JOINING[random.nextInt(JOINING.length)]).append(operand(deep));
        }
        return e.toString();
    }

    private String operand(int deep) {
        return switch (random.nextInt(deep > 0 ? 7 : 3)) {
            case 0 -> String.valueOf(random.nextInt(random.nextBoolean() ? 10000 : 30));
            case 1, 2 -> String.valueOf("ykwp".charAt(random.nextInt(4)));
            case 3 -> "!" + operand(deep - 1);
            case 4 -> "-" + operand(deep - 1);
            default -> "(" + expression(deep - 1) + ")";
        };
    }

    private boolean holds(String text) {
        ChairOld x = new ChairOld();
        int wood = random.nextInt(10);
        int place = random.nextInt(10);
        x.part(10 * wood + place);
        for (int i = 0; i < text.length(); i++) {
            x.feed(text.charAt(i));
        }
        int fault = PlainLaw.fault(text);
        int got = x.law(1);
        boolean same = got == (fault < 0 ? 1 : -100 - fault);
        for (int i = 0; i < 5 && same && fault < 0; i++) {
            int kind = random.nextInt(6);
            int time = random.nextInt(30);
            int due = PlainLaw.hundredths(text, time, kind, wood, place);
            got = x.number(1, 100 * kind + time);
            same = got == due;
        }
        if (!same) {
            System.out.println(text + " answered " + got + ", its fault is " + fault);
        }
        return same;
    }
}
