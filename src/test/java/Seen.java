import java.util.ArrayList;
import java.util.List;

/** All that calls can tell of an object. It uses the object up: undoes, goes back, takes the tape for a law. */
final class Seen {
    private static final int[] KINDS_AND_TIMES = {0, 15, 129, 329, 508};

    private final Run run;
    private final List<String> lines = new ArrayList<>();

    private Seen(Run run) {
        this.run = run;
    }

    static List<String> of(Run run) {
        Seen seen = new Seen(run);
        seen.counts();
        seen.papers();
        seen.shelves();
        seen.bodies();
        int parts = (int) seen.ask("count(0)");
        seen.parts(parts);
        seen.laws(parts);
        seen.changes();
        if (seen.ask("back()") >= 0) {
            seen.found(parts);
        }
        return seen.lines;
    }

    private long ask(String call) {
        long answer = run.answer(call);
        lines.add(call + " is " + answer);
        return answer;
    }

    private void counts() {
        for (int what = 1; what <= 5; what++) {
            ask("count(" + what + ")");
        }
        long ran = ask("count(6)");
        for (int i = 0; i <= ran && i < 25; i++) {
            ask("trace(" + i + ")");
        }
    }

    private void papers() {
        ask("papers(0)");
        ask("papers(1)");
        for (int time = 0; time < 30; time++) {
            ask("house(" + time + ")");
        }
    }

    private void shelves() {
        for (int shelf = 0; shelf < 6; shelf++) {
            boolean isRow = ask("taken(" + shelf + ", 0)") == -12;
            for (int i = 0; i <= 60 && isRow; i++) {
                isRow = ask("element(" + shelf + ", " + i + ")") != Long.MIN_VALUE;
            }
            // Of which sort a row is shows in what it keeps.
            if (run.answer("put(" + shelf + ", 0, 20000000000)") == 1) {
                ask("element(" + shelf + ", 0)");
            }
        }
    }

    private void bodies() {
        long bodies = run.answer("count(5)");
        for (int i = 0; i < bodies; i++) {
            ask("act(" + i + ", 3, 7)");
        }
    }

    private void parts(int parts) {
        for (int part = 0; part < parts; part++) {
            ask("of(" + part + ", 0)");
            ask("of(" + part + ", 1)");
        }
        found(parts);
    }

    private void found(int parts) {
        for (int part = 0; part < parts; part++) {
            for (int mark = 0; mark < 6; mark++) {
                ask("of(" + part + ", " + (10 + mark) + ")");
            }
        }
    }

    private void laws(int parts) {
        if (parts == 0) {
            run.answer("part(47)");
        }
        for (int mark = 0; mark < 6; mark++) {
            numbers(mark);
        }
        ask("law(0)");
        numbers(0);
        ask("count(3)");
    }

    private void numbers(int mark) {
        for (int kt : KINDS_AND_TIMES) {
            ask("number(" + mark + ", " + kt + ")");
        }
    }

    private void changes() {
        told();
        for (int i = 0; i <= 40 && ask("redo()") >= 0; i++) {
            continue;
        }
        for (int i = 0; i <= 40 && ask("undo()") >= 0; i++) {
            continue;
        }
        told();
    }

    private void told() {
        for (int what : new int[] {20, 21, 30, 31}) {
            for (int number = 0; number < 6; number++) {
                ask("of(" + number + ", " + what + ")");
            }
        }
    }
}
