import java.util.ArrayDeque;
import java.util.Deque;

/**
 * Laws told in another way than ChairOld does it: the FAULT by walking an automaton over the bytes,
 * the worth by splitting the text at its loosest sign.
 */
final class PlainLaw {
    private PlainLaw() {
    }

    /** The FAULT, or -1. */
    static int fault(String text) {
        Deque<Character> open = new ArrayDeque<>();
        Deque<Boolean> compared = new ArrayDeque<>();
        boolean wantsOperand = true;
        boolean comparedHere = false;
        boolean asked = false;
        int digits = 0;
        for (int i = 0; i < text.length(); i++) {
            char c = text.charAt(i);
            if (wantsOperand) {
                if (c == '(' || c == '!' || c == '-') {
                    if (open.size() == 6) {
                        return i;
                    }
                    open.push(c);
                    if (c == '(') {
                        compared.push(comparedHere);
                        comparedHere = false;
                    }
                    continue;
                }
                if (c >= '0' && c <= '9') {
                    digits = 1;
                } else if ("ykwp".indexOf(c) >= 0) {
                    digits = 0;
                } else {
                    return i;
                }
                wantsOperand = false;
                closeSigns(open);
                continue;
            }
            if (c >= '0' && c <= '9' && digits > 0 && digits < 4) {
                digits++;
                continue;
            }
            digits = 0;
            if (c == ')') {
                if (open.isEmpty()) {
                    return i;
                }
                open.pop();
                comparedHere = compared.pop();
                closeSigns(open);
                continue;
            }
            wantsOperand = true;
            if (c == '+' || c == '-' || c == '*' || c == '/' || c == '%') {
                continue;
            }
            if (c == '<' || c == '=' || c == '>') {
                if (comparedHere) {
                    return i;
                }
                comparedHere = true;
            } else if (c == '|' || c == '&') {
                comparedHere = false;
            } else if (c == '?' && open.isEmpty() && !asked) {
                asked = true;
                comparedHere = false;
            } else if (c == ';' && open.isEmpty()) {
                asked = false;
                comparedHere = false;
            } else {
                return i;
            }
        }
        return wantsOperand || !open.isEmpty() ? text.length() : -1;
    }

    /** What stands ahead of an operand ends with it; a parenthesis ends only with its own sign. */
    private static void closeSigns(Deque<Character> open) {
        while (!open.isEmpty() && open.peek() != '(') {
            open.pop();
        }
    }

    static int hundredths(String text, int y, int k, int w, int p) {
        if (text == null) {
            return 50;
        }
        int[] names = {y, k, w, p};
        int worth = 0;
        for (String line : text.split(";")) {
            int ask = line.indexOf('?');
            if (ask < 0) {
                worth = value(line, names);
                break;
            }
            if (value(line.substring(0, ask), names) != 0) {
                worth = value(line.substring(ask + 1), names);
                break;
            }
        }
        return worth < 0 ? 0 : worth > 100 ? 100 : worth;
    }

    private static int value(String e, int[] names) {
        for (String signs : new String[] {"|", "&", "<=>", "+-", "*/%"}) {
            int at = lastSign(e, signs);
            if (at >= 0) {
                return join(e.charAt(at), value(e.substring(0, at), names), value(e.substring(at + 1), names));
            }
        }
        char first = e.charAt(0);
        if (first == '!') {
            return value(e.substring(1), names) == 0 ? 1 : 0;
        }
        if (first == '-') {
            return -value(e.substring(1), names);
        }
        if (first == '(') {
            return value(e.substring(1, e.length() - 1), names);
        }
        int name = "ykwp".indexOf(first);
        return name >= 0 ? names[name] : Integer.parseInt(e);
    }

    /** The last of such signs outside of parentheses that joins two. */
    private static int lastSign(String e, String signs) {
        int deep = 0;
        for (int i = e.length() - 1; i > 0; i--) {
            char c = e.charAt(i);
            deep += c == ')' ? 1 : c == '(' ? -1 : 0;
            boolean joins = e.charAt(i - 1) == ')' || Character.isLetterOrDigit(e.charAt(i - 1));
            if (deep == 0 && joins && signs.indexOf(c) >= 0) {
                return i;
            }
        }
        return -1;
    }

    private static int join(char sign, int a, int b) {
        return switch (sign) {
            case '|' -> a != 0 || b != 0 ? 1 : 0;
            case '&' -> a != 0 && b != 0 ? 1 : 0;
            case '<' -> a < b ? 1 : 0;
            case '=' -> a == b ? 1 : 0;
            case '>' -> a > b ? 1 : 0;
            case '+' -> a + b;
            case '-' -> a - b;
            case '*' -> a * b;
            case '/' -> b == 0 ? 0 : a / b;
            default -> b == 0 ? 0 : a % b;
        };
    }
}
