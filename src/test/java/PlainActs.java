import java.util.ArrayList;
import java.util.List;

/** The kinds of BODIES as real Java classes: Java itself says which body runs. */
final class PlainActs {
    static final List<Integer> trace = new ArrayList<>();

    private PlainActs() {
    }

    static Part make(int kind, int n) {
        Part made = switch (kind) {
            case 0 -> new Part();
            case 1 -> new Old();
            case 2 -> new Mended();
            case 3 -> new Aged();
            case 4 -> new Split();
            case 5 -> new Cut();
            case 6 -> new New();
            default -> new Foreign();
        };
        made.n = n;
        made.kind = kind;
        return made;
    }

    /** Whether a body of that kind is an instance of kind k's class. */
    static boolean isA(Part part, int k) {
        return make(k, 0).getClass().isInstance(part);
    }

    interface Ages {
        int n();

        default int ages(int x) {
            trace.add(1);
            return x + n();
        }
    }

    interface Tells {
        int joins(int x);

        int shows(int x);

        default int tells(int x) {
            trace.add(2);
            return joins(x) - shows(1);
        }
    }

    static class Part implements Ages, Tells {
        int n;
        int kind;

        public int n() {
            return n;
        }

        public int joins(int x) {
            trace.add(10);
            return ages(x) * 2;
        }

        public int shows(int x) {
            trace.add(11);
            return x ^ n;
        }
    }

    static class Old extends Part {
        public int ages(int x) {
            trace.add(20);
            return super.ages(x) + 3;
        }
    }

    static class Mended extends Part {
        public int joins(int x) {
            trace.add(30);
            return -super.joins(x);
        }
    }

    static class Aged extends Mended {
        public int shows(int x) {
            trace.add(40);
            return super.shows(x) * 3;
        }

        public int joins(int x) {
            trace.add(41);
            return super.joins(x + 1);
        }
    }

    static class Split extends Old {
        public int shows(int x) {
            trace.add(50);
            return super.shows(x) - ages(2);
        }
    }

    static class Cut extends Aged {
        public int tells(int x) {
            trace.add(60);
            return super.tells(x) ^ 5;
        }
    }

    static class New extends Part {
        public int ages(int x) {
            trace.add(70);
            return super.ages(x) * 2;
        }
    }

    static class Foreign extends Split {
        public int joins(int x) {
            trace.add(80);
            return super.joins(x) + shows(2);
        }

        public int tells(int x) {
            trace.add(81);
            return super.tells(x) - 1;
        }
    }
}
