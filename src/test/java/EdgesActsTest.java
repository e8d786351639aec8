/** 'Terms', part 5, and promises 31 to 33: bodies and their acts. Of eight bodies each has its kind's number. */
public final class EdgesActsTest {
    private static final int MIN = Edges.MIN;
    private static final int MAX = Edges.MAX;

    public static void main(String[] args) {
        Edges.run(EdgesActsTest.class);
    }

    private static Run bodies() {
        return Edges.withBodiesOfAllKinds();
    }

    @Holds(promise = Holds.TERMS, says = "PARTS' ways are kept by call as BODIES 0 .. 49,")
    static void fiftyBodiesComeAndTheNextDoesNot() {
        Run run = new Run();
        for (int i = 0; i <= 49; i++) {
            run.due(i, "body(0)").due(i, "act(" + i + ", 0, 0)").due(0, "act(" + (i + 1) + ", 0, 7)");
        }
        run.refused(-3, "body(_)", 0, 7).due(50, "count(5)").due(1, "keep(0, 49)").refused(-1, "keep(0, 50)");
    }

    @Holds(promise = Holds.TERMS, says = "of KINDS: 0 PART; 1 OLD under PART; 2 MENDED under PART; 3 AGED under MENDED; 4 SPLIT under OLD; 5 CUT under AGED; 6 NEW under PART; 7 FOREIGN under SPLIT.")
    static void whichKindIsUnderWhich() {
        int[][] upward = {{0}, {1, 0}, {2, 0}, {3, 2, 0}, {4, 1, 0}, {5, 3, 2, 0}, {6, 0}, {7, 4, 1, 0}};
        for (int kind = 0; kind <= 7; kind++) {
            Run run = bodies().made("keep(0, " + kind + ")");
            for (int k = 0; k <= 7; k++) {
                int want = -12;
                for (int one : upward[kind]) {
                    want = one == k ? kind : want;
                }
                run.due(want, "taken(0, " + k + ")");
            }
        }
    }

    @Holds(promise = Holds.TERMS, says = "ACTS with x (an int that wraps): 0 ages, 1 joins, 2 shows, 3 tells; n its number.")
    static void whatIsAboveTheGreatestIntWraps() {
        Run run = bodies().due(MIN + 3, "act(1, 0, " + MAX + ")").due(MIN, "act(0, 0, " + MIN + ")");
        // MAX * 2; -((MIN + 2) * 2); (MAX + 6) * 2 * 2; -((MAX + 1 + 3) * 2).
        run.due(-2, "act(0, 1, " + MAX + ")").due(-4, "act(2, 1, " + MIN + ")");
        run.due(20, "act(6, 1, " + MAX + ")").due(-6, "act(3, 1, " + MAX + ")");
        // MAX ^ 2; (MAX ^ 3) * 3; MAX * 2 - 1.
        run.due(MAX - 2, "act(2, 2, " + MAX + ")").due(MAX - 11, "act(3, 2, " + MAX + ")")
            .due(-3, "act(0, 3, " + MAX + ")");
    }

    @Holds(promise = Holds.TERMS, says = "BODIES of acts: AGES (an interface of PART): 1 ages: x + n.")
    static void body1() {
        bodies().due(5, "act(0, 0, 5)").traced(1).due(7, "act(2, 0, 5)").traced(1).due(8, "act(3, 0, 5)").traced(1);
        bodies().due(10, "act(5, 0, 5)").traced(1);
    }

    @Holds(promise = Holds.TERMS, says = "PART: 10 joins: ages(x) * 2. 11 shows: x ^ n.")
    static void bodies10And11() {
        bodies().due(10, "act(0, 1, 5)").traced(10, 1).due(18, "act(1, 1, 5)").traced(10, 20, 1);
        bodies().due(24, "act(4, 1, 5)").traced(10, 20, 1).due(44, "act(6, 1, 5)").traced(10, 70, 1);
        bodies().due(5, "act(0, 2, 5)").traced(11).due(4, "act(1, 2, 5)").traced(11).due(7, "act(2, 2, 5)").traced(11);
        bodies().due(3, "act(6, 2, 5)").traced(11).due(-6, "act(1, 2, -5)");
    }

    @Holds(promise = Holds.TERMS, says = "TELLS (of PART): 2 tells: joins(x) - shows(1).")
    static void body2() {
        bodies().due(9, "act(0, 3, 5)").traced(2, 10, 1, 11).due(18, "act(1, 3, 5)").traced(2, 10, 20, 1, 11);
        bodies().due(-17, "act(2, 3, 5)").traced(2, 30, 10, 1, 11).due(37, "act(6, 3, 5)").traced(2, 10, 70, 1, 11);
        bodies().due(28, "act(4, 3, 5)").traced(2, 10, 20, 1, 50, 11, 20, 1);
    }

    @Holds(promise = Holds.TERMS, says = "OLD: 20 ages: super.ages(x) + 3.")
    static void body20() {
        bodies().due(9, "act(1, 0, 5)").traced(20, 1).due(12, "act(4, 0, 5)").traced(20, 1).due(15, "act(7, 0, 5)")
            .traced(20, 1);
    }

    @Holds(promise = Holds.TERMS, says = "MENDED: 30 joins: -super.joins(x).")
    static void body30() {
        bodies().due(-14, "act(2, 1, 5)").traced(30, 10, 1);
    }

    @Holds(promise = Holds.TERMS, says = "AGED: 40 shows: super.shows(x) * 3. 41 joins: super.joins(x + 1).")
    static void bodies40And41() {
        bodies().due(18, "act(3, 2, 5)").traced(40, 11).due(0, "act(5, 2, 5)").traced(40, 11);
        bodies().due(-18, "act(3, 1, 5)").traced(41, 30, 10, 1).due(-22, "act(5, 1, 5)").traced(41, 30, 10, 1);
        bodies().due(-24, "act(3, 3, 5)").traced(2, 41, 30, 10, 1, 40, 11);
    }

    @Holds(promise = Holds.TERMS, says = "SPLIT: 50 shows: super.shows(x) - ages(2).")
    static void body50() {
        bodies().due(-8, "act(4, 2, 5)").traced(50, 11, 20, 1).due(-10, "act(7, 2, 5)").traced(50, 11, 20, 1);
    }

    @Holds(promise = Holds.TERMS, says = "CUT: 60 tells: super.tells(x) ^ 5.")
    static void body60() {
        bodies().due(-37, "act(5, 3, 5)").traced(60, 2, 41, 30, 10, 1, 40, 11);
    }

    @Holds(promise = Holds.TERMS, says = "NEW: 70 ages: super.ages(x) * 2.")
    static void body70() {
        bodies().due(22, "act(6, 0, 5)").traced(70, 1);
    }

    @Holds(promise = Holds.TERMS, says = "FOREIGN: 80 joins: super.joins(x) + shows(2). 81 tells: super.tells(x) - 1.")
    static void bodies80And81() {
        bodies().due(23, "act(7, 1, 5)").traced(80, 10, 20, 1, 50, 11, 20, 1);
        bodies().due(28, "act(7, 3, 5)").traced(81, 2, 80, 10, 20, 1, 50, 11, 20, 1, 50, 11, 20, 1);
    }

    @Holds(promise = Holds.TERMS, says = "ages(..) and so on: the body of its own KIND, or of the next KIND above that has one; super: from the KIND above the body's on.")
    static void superStartsAboveTheBodyNotAboveTheObject() {
        // Body 10 runs for FOREIGN, and its ages(..) is OLD's; above body 41 MENDED's comes, for CUT as for AGED.
        bodies().made("act(7, 1, 0)").traced(80, 10, 20, 1, 50, 11, 20, 1).made("act(5, 1, 0)").traced(41, 30, 10, 1);
        bodies().made("act(5, 2, 0)").traced(40, 11).made("act(7, 2, 0)").traced(50, 11, 20, 1).made("act(7, 0, 0)")
            .traced(20, 1);
    }

    @Holds(promise = Holds.TERMS, says = "THE TRACE: numbers of the bodies that ran in the latest act(), as they began; the first 24 are kept.")
    static void onlyTheLatestActIsTraced() {
        Run run = new Run().traced().made("body(7)", "body(0)").made("act(0, 3, 1)");
        // The longest of all has 14 bodies: none ever comes near 24.
        run.traced(81, 2, 80, 10, 20, 1, 50, 11, 20, 1, 50, 11, 20, 1);
        run.made("act(1, 0, 1)").traced(1).made("body(3)", "keep(0, 1)").traced(1);
    }

    @Holds(promise = 31, says = "A PART of a KIND (0 .. 7) is kept: its number.")
    static void bodyTakesKinds0To7() {
        Run run = new Run();
        for (int kind = 0; kind <= 7; kind++) {
            run.due(kind, "body(" + kind + ")").due(1, "keep(0, " + kind + ")").due(kind, "taken(0, 0)");
        }
        run.refused(-1, "body(_)", -1, 8);
    }

    @Holds(promise = 31, says = "BAD, FULL.")
    static void bodyRefusesWhatIsNoKindAndIsFullWith50() {
        Edges.withAll().refused(-1, "body(_)", -1, 8, MIN, MAX);
        Run run = new Run();
        for (int i = 0; i < 49; i++) {
            run.made("body(" + i % 8 + ")");
        }
        run.refused(-1, "body(8)").due(49, "body(7)").refused(-3, "body(_)", 0, 7).refused(-1, "body(_)", -1, 8);
    }

    @Holds(promise = 32, says = "An ACT (0 .. 3) of a PART with x.")
    static void actTakesActs0To3() {
        bodies().due(5, "act(0, 0, 5)").due(10, "act(0, 1, 5)").due(5, "act(0, 2, 5)").due(9, "act(0, 3, 5)")
            .due(28, "act(7, 3, 5)");
    }

    @Holds(promise = 32, says = "0, and no TRACE then: no such PART, ACT.")
    static void anActThatIsNotThereLeavesNoTrace() {
        for (long wrong : new long[] {-1, 4, MIN, MAX}) {
            bodies().made("act(7, 3, 5)").due(0, "act(0, " + wrong + ", 5)").traced();
        }
        for (long wrong : new long[] {-1, 8, 50, MIN, MAX}) {
            bodies().made("act(7, 3, 5)").due(0, "act(" + wrong + ", 0, 5)").traced();
        }
        new Run().due(0, "act(0, 0, 5)").traced();
        // Nothing else is changed by it.
        Run run = Edges.withAll().due(0, "act(9, 0, 5)");
        run.refused(0, "act(9, 0, 5)").refused(0, "act(0, 4, 5)").refused(0, "act(-1, -1, 5)");
    }

    @Holds(promise = 33, says = "THE TRACE's i-th body.")
    static void theFirstAndTheLastOfTheTrace() {
        Run run = bodies().made("act(7, 3, 5)").due(81, "trace(0)").due(2, "trace(1)").due(20, "trace(12)")
            .due(1, "trace(13)");
        run.refused(-1, "trace(_)", -1, 14);
    }

    @Holds(promise = 33, says = "BAD.")
    static void traceRefusesWhatDidNotRun() {
        Edges.withAll().refused(-1, "trace(_)", -1, 14, 23, 24, 25, MIN, MAX);
        new Run().refused(-1, "trace(_)", -1, 0);
        bodies().made("act(0, 0, 5)").due(1, "trace(0)").refused(-1, "trace(1)").made("act(0, 9, 5)")
            .refused(-1, "trace(0)");
    }
}
