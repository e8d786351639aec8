/** 'Terms', part 5, and promises 34 to 40: shelves, rows, and the counts. */
public final class EdgesShelvesTest {
    private static final int MIN = Edges.MIN;
    private static final int MAX = Edges.MAX;
    private static final long NO_LONG = Edges.NO_LONG;

    public static void main(String[] args) {
        Edges.run(EdgesShelvesTest.class);
    }

    private static Run rowOf(int sort, int n) {
        return new Run().due(1, "row(0, " + sort + ", " + n + ")");
    }

    private static void keeps(int sort, long put, long want) {
        rowOf(sort, 3).due(1, "put(0, 1, " + put + ")").elements(0, 0, want, 0);
    }

    @Holds(promise = Holds.TERMS, says = "SHELVES 0 .. 5 each hold nothing (at first), a PART (a BODY), or a ROW:")
    static void sixShelvesHoldNothingAtFirst() {
        Run run = new Run();
        run.each(-11, "taken(_, 0)", 0, 1, 2, 3, 4, 5).each(-1, "taken(_, 0)", -1, 6).each(-11, "put(_, 0, 0)", 0, 5);
        run.made("body(0)", "keep(0, 0)", "keep(5, 0)").each(0, "taken(_, 0)", 0, 5)
            .each(-11, "taken(_, 0)", 1, 2, 3, 4);
        run.made("row(0, 0, 1)", "row(5, 0, 1)").each(-12, "taken(_, 0)", 0, 5).each(0, "element(_, 0)", 0, 5);
        run.made("keep(0, -1)", "keep(5, -1)").each(-11, "taken(_, 0)", 0, 5).each(NO_LONG, "element(_, 0)", 0, 5);
        run.refused(-1, "row(_, 0, 1)", -1, 6).refused(-1, "keep(_, -1)", -1, 6);
    }

    @Holds(promise = Holds.TERMS, says = "of 0 bytes, 1 shorts, 2 ints, 3 longs, 4 booleans,")
    static void rowsOfFiveSorts() {
        long[] kept = {0, 0x7700, 0x55667700, 0x1122334455667700L, 1};
        for (int sort = 0; sort <= 4; sort++) {
            keeps(sort, 0x1122334455667700L, kept[sort]);
        }
        new Run().refused(-1, "row(0, _, 1)", -1, 5);
    }

    @Holds(promise = Holds.TERMS, says = "of 0 .. 60 elements,")
    static void aRowHas60ElementsAtMost() {
        for (int sort = 0; sort <= 4; sort++) {
            rowOf(sort, 0).refused(-13, "put(0, _, 1)", -1, 0).refused(NO_LONG, "element(0, _)", -1, 0);
            rowOf(sort, 1).due(1, "put(0, 0, 1)").refused(-13, "put(0, 1, 1)").due(1, "element(0, 0)")
                .due(NO_LONG, "element(0, 1)");
            rowOf(sort, 60).due(1, "put(0, 59, 1)").refused(-13, "put(0, 60, 1)").due(1, "element(0, 59)")
                .due(NO_LONG, "element(0, 60)");
            new Run().refused(-1, "row(0, " + sort + ", _)", 61, MAX).refused(-14, "row(0, " + sort + ", _)", -1, MIN);
        }
    }

    @Holds(promise = Holds.TERMS, says = "0 at first (false);")
    static void aNewRowHas0InEachPlace() {
        for (int sort = 0; sort <= 4; sort++) {
            Run run = rowOf(sort, 60);
            for (int i = 0; i < 60; i++) {
                run.due(0, "element(0, " + i + ")").due(1, "put(0, " + i + ", -1)");
            }
            // A new row on the same shelf has nothing of the old one, nor has the one beside it.
            run.made("row(0, " + sort + ", 60)", "row(1, " + sort + ", 1)").due(0, "element(1, 0)");
            for (int i = 0; i < 60; i++) {
                run.due(0, "element(0, " + i + ")");
            }
        }
    }

    @Holds(promise = Holds.TERMS, says = "what is put in keeps its lowest bits (a boolean: whether it is not 0; 1 or 0).")
    static void theLowestBitsAreKept() {
        long[][] bytes = {{127, 127}, {128, -128}, {255, -1}, {256, 0}, {-128, -128}, {-129, 127}, {Long.MIN_VALUE, 0},
            {Long.MAX_VALUE, -1}};
        long[][] shorts = {{32767, 32767}, {32768, -32768}, {65535, -1}, {65536, 0}, {-32768, -32768}, {-32769, 32767}};
        long[][] ints = {{MAX, MAX}, {MAX + 1L, MIN}, {4294967295L, -1}, {4294967296L, 0}, {MIN, MIN}, {MIN - 1L, MAX}};
        for (long[] one : bytes) {
            keeps(0, one[0], one[1]);
        }
        for (long[] one : shorts) {
            keeps(1, one[0], one[1]);
        }
        for (long[] one : ints) {
            keeps(2, one[0], one[1]);
        }
        for (long one : new long[] {Long.MAX_VALUE, Long.MIN_VALUE, 4294967296L, -1, 0}) {
            keeps(3, one, one);
        }
    }

    @Holds(promise = Holds.TERMS, says = "(a boolean: whether it is not 0; 1 or 0).")
    static void aBooleanIs1UnlessItIs0() {
        for (long one : new long[] {1, 2, -1, 256, 65536, 4294967296L, Long.MIN_VALUE, Long.MAX_VALUE}) {
            keeps(4, one, 1);
        }
        keeps(4, 0, 0);
        rowOf(4, 1).made("put(0, 0, 7)").due(1, "put(0, 0, 0)").due(0, "element(0, 0)");
    }

    @Holds(promise = Holds.TERMS, says = "The host's REFUSALS: -11 nothing is there where something is wanted;")
    static void minus11WhereNothingIs() {
        Run run = Edges.withAll();
        run.refused(-11, "put(5, 0, 1)").refused(-11, "taken(5, 0)").refused(-11, "shift(5, 0, 0, 0, 0)");
        run.refused(-11, "shift(0, 0, 5, 0, 0)").refused(-11, "shift(5, 0, 5, 0, 0)");
    }

    @Holds(promise = Holds.TERMS, says = "-12 it is of another kind;")
    static void minus12WhereItIsOfAnotherKind() {
        Run run = Edges.withAll();
        run.refused(-12, "put(3, 0, 1)").refused(-12, "taken(_, 0)", 0, 1, 2, 4)
            .refused(-12, "taken(3, _)", 2, 3, 5, 6);
        run.refused(-12, "shift(0, 0, 1, 0, 1)").refused(-12, "shift(3, 0, 0, 0, 1)")
            .refused(-12, "parts(_, 0, 1)", 1, 2, 3);
    }

    @Holds(promise = Holds.TERMS, says = "-13 a place that is not there;")
    static void minus13WhereThePlaceIsNot() {
        Run run = Edges.withAll();
        run.refused(-13, "put(0, _, 1)", -1, 4, MIN, MAX).refused(-13, "put(4, _, 1)", -1, 0);
        run.refused(-13, "shift(0, _, 0, 0, 1)", -1, 4).refused(-13, "shift(0, 0, 0, _, 1)", -1, 4);
    }

    @Holds(promise = Holds.TERMS, says = "-14 a size below 0.")
    static void minus14WhereTheSizeIsBelow0() {
        Edges.withAll().refused(-14, "row(_, 0, -1)", 0, 3, 5).refused(-14, "row(0, _, -1)", 1, 4)
            .refused(-14, "row(0, 0, _)", -2, MIN);
    }

    @Holds(promise = 34, says = "A SHELF holds nothing (body -1), or a PART: 1.")
    static void keepTakesTheFirstAndTheLastOfEach() {
        Run run = Edges.withBodiesOfAllKinds().made("row(0, 0, 3)").due(1, "keep(0, 0)").due(1, "keep(5, 7)");
        run.due(0, "taken(0, 0)").due(7, "taken(5, 0)").due(1, "keep(0, 7)").due(7, "taken(0, 0)");
        run.due(1, "keep(0, -1)").due(-11, "taken(0, 0)").due(1, "keep(0, -1)").due(7, "taken(5, 0)");
        new Run().due(1, "keep(0, -1)").due(1, "keep(5, -1)");
    }

    @Holds(promise = 34, says = "BAD.")
    static void keepRefusesWhatIsNoShelfOrBody() {
        Run run = Edges.withAll().refused(-1, "keep(_, 0)", -1, 6, MIN, MAX).refused(-1, "keep(_, -1)", -1, 6);
        run.refused(-1, "keep(0, _)", -2, 3, MIN, MAX).refused(-1, "keep(3, _)", -2, 3)
            .refused(-1, "keep(5, _)", -2, 3);
        new Run().refused(-1, "keep(0, _)", -2, 0).refused(-1, "keep(_, 0)", -1, 6);
    }

    @Holds(promise = 35, says = "A SHELF holds a ROW: 1.")
    static void rowTakesTheFirstAndTheLastOfEach() {
        Run run = new Run().due(1, "row(0, 0, 0)").due(1, "row(5, 4, 60)").due(0, "element(5, 59)")
            .due(-13, "put(0, 0, 1)");
        run.made("body(0)", "keep(1, 0)").due(1, "row(1, 2, 1)").due(-12, "taken(1, 0)").due(0, "element(1, 0)");
        run.made("put(1, 0, 9)").due(1, "row(1, 1, 2)").elements(1, 0, 0, NO_LONG);
    }

    @Holds(promise = 35, says = "BAD (sort, n above 60); -14.")
    static void rowRefusesSortsAndSizes() {
        Run run = Edges.withAll().refused(-1, "row(0, _, 1)", -1, 5, MIN, MAX).refused(-1, "row(0, 0, _)", 61, MAX);
        run.refused(-1, "row(_, 0, 1)", -1, 6, MIN, MAX).refused(-14, "row(0, 0, _)", -1, MIN)
            .refused(-14, "row(5, 4, _)", -1, MIN);
        run.refused(-1, "row(0, 5, _)", -1, 61).refused(-1, "row(6, 0, _)", -1, 61);
    }

    @Holds(promise = 36, says = "Element i of a ROW becomes v: 1.")
    static void putTakesTheFirstAndTheLastPlace() {
        Run run = new Run().made("row(0, 3, 3)", "row(5, 3, 60)").due(1, "put(0, 0, 7)").due(1, "put(0, 2, 9)")
            .elements(0, 7, 0, 9, NO_LONG);
        run.due(1, "put(5, 59, -3)").due(-3, "element(5, 59)").due(0, "element(5, 58)").due(1, "put(0, 0, 8)")
            .elements(0, 8, 0, 9);
    }

    @Holds(promise = 36, says = "BAD, -11, -12, -13.")
    static void putRefusesInThisOrder() {
        Run run = Edges.withAll().refused(-1, "put(_, 0, 1)", -1, 6, MIN, MAX).refused(-11, "put(5, _, 1)", -1, 0, 60);
        run.refused(-12, "put(3, _, 1)", -1, 0, 60).refused(-13, "put(0, _, 1)", -1, 4, 60, MIN, MAX)
            .refused(-13, "put(4, _, 1)", -1, 0);
    }

    @Holds(promise = 37, says = "Element i of a ROW;")
    static void elementOfTheFirstAndTheLastPlace() {
        Run run = new Run().bytesOn(0, 7, -128, 127).elements(0, 7, -128, 127);
        run.made("row(5, 3, 60)", "put(5, 59, 9223372036854775807)").due(Long.MAX_VALUE, "element(5, 59)")
            .due(0, "element(5, 0)");
    }

    @Holds(promise = 37, says = "Long.MIN_VALUE: BAD, -11 to -13.")
    static void elementRefusesAllByTheSameAnswer() {
        Run run = Edges.withAll().refused(NO_LONG, "element(_, 0)", -1, 6, MIN, MAX, 3, 4, 5);
        run.refused(NO_LONG, "element(0, _)", -1, 4, 60, MIN, MAX);
    }

    @Holds(promise = 38, says = "n elements of a ROW from i on come to another one (or the same) from j on, as they all were before: n.")
    static void shiftTakesTheFirstAndTheLastPlaces() {
        Run run = new Run().bytesOn(0, 1, 2, 3, 4, 5).bytesOn(5, 7, 8, 9);
        run.twin().due(3, "shift(0, 0, 5, 0, 3)").elements(5, 1, 2, 3, NO_LONG).elements(0, 1, 2, 3, 4, 5);
        run.twin().due(3, "shift(0, 2, 5, 0, 3)").elements(5, 3, 4, 5);
        run.twin().due(3, "shift(5, 0, 0, 2, 3)").elements(0, 1, 2, 7, 8, 9).elements(5, 7, 8, 9);
        run.twin().due(1, "shift(0, 4, 5, 2, 1)").elements(5, 7, 8, 5);
        run.twin().due(0, "shift(0, 5, 5, 3, 0)").elements(5, 7, 8, 9).elements(0, 1, 2, 3, 4, 5);
        run.twin().made("row(1, 0, 0)").due(0, "shift(1, 0, 1, 0, 0)").due(0, "shift(0, 0, 1, 0, 0)")
            .due(-13, "shift(0, 0, 1, 0, 1)");
    }

    @Holds(promise = 38, says = "(or the same) from j on, as they all were before:")
    static void shiftWithinTheSameRowTakesWhatWasThere() {
        Run run = new Run().bytesOn(0, 1, 2, 3, 4, 5);
        run.twin().due(4, "shift(0, 0, 0, 1, 4)").elements(0, 1, 1, 2, 3, 4);
        run.twin().due(4, "shift(0, 1, 0, 0, 4)").elements(0, 2, 3, 4, 5, 5);
        run.twin().due(5, "shift(0, 0, 0, 0, 5)").elements(0, 1, 2, 3, 4, 5);
        run.twin().due(2, "shift(0, 0, 0, 3, 2)").elements(0, 1, 2, 3, 1, 2);
        for (int sort = 0; sort <= 4; sort++) {
            rowOf(sort, 3).made("put(0, 0, 1)").due(2, "shift(0, 0, 0, 1, 2)").elements(0, 1, 1, 0);
        }
    }

    @Holds(promise = 38, says = "BAD, -11 (either), -12 (no ROWS, or of unlike sorts), -13.")
    static void shiftRefusesInThisOrder() {
        Run run = new Run().bytesOn(0, 1, 2, 3, 4, 5).bytesOn(1, 7, 8, 9)
            .made("row(2, 1, 3)", "body(0)", "keep(3, 0)", "keep(4, 0)");
        run.refused(-1, "shift(_, 0, 0, 0, 1)", -1, 6, MIN, MAX).refused(-1, "shift(0, 0, _, 0, 1)", -1, 6, MIN, MAX);
        run.refused(-11, "shift(5, 0, _, 0, 1)", 0, 3, 5).refused(-11, "shift(_, 0, 5, 0, 1)", 0, 3)
            .refused(-11, "shift(5, -1, 0, 9, -1)");
        run.refused(-12, "shift(0, 0, _, 0, 1)", 2, 3).refused(-12, "shift(_, 0, 0, 0, 1)", 2, 3)
            .refused(-12, "shift(3, 0, 4, 0, 0)");
        run.refused(-12, "shift(3, 0, 3, 0, 0)").refused(-12, "shift(0, -1, 2, 9, -1)");
        run.refused(-13, "shift(0, _, 1, 0, 1)", -1, 5, 6, MIN, MAX)
            .refused(-13, "shift(0, 0, 1, _, 1)", -1, 3, 4, MIN, MAX);
        run.refused(-13, "shift(0, 0, 1, 0, _)", -1, 4, 5, 6, MIN, MAX).refused(-13, "shift(0, 3, 1, 0, 3)")
            .refused(-13, "shift(1, 0, 0, 3, 3)");
        run.refused(-13, "shift(0, 6, 1, 0, 0)").refused(-13, "shift(0, 0, 1, 4, 0)")
            .refused(-13, "shift(0, 1, 1, 1, _)", MAX, MIN);
    }

    @Holds(promise = 39, says = "What a SHELF holds, taken for a PART of KIND k (0 .. 7), or under it: its KIND.")
    static void takenForItsKindOrOneAbove() {
        Run run = Edges.withBodiesOfAllKinds().made("keep(0, 7)", "keep(5, 0)").each(7, "taken(0, _)", 0, 1, 4, 7)
            .due(0, "taken(5, 0)");
        run.each(-12, "taken(0, _)", 2, 3, 5, 6).each(-12, "taken(5, _)", 1, 2, 3, 4, 5, 6, 7);
    }

    @Holds(promise = 39, says = "BAD, -11, -12.")
    static void takenRefusesInThisOrder() {
        Run run = Edges.withAll().refused(-1, "taken(_, 0)", -1, 6, MIN, MAX)
            .refused(-1, "taken(3, _)", -1, 8, MIN, MAX);
        run.refused(-1, "taken(_, 8)", 0, 5).refused(-11, "taken(5, _)", 0, 7).refused(-12, "taken(0, _)", 0, 7)
            .refused(-12, "taken(3, _)", 2, 6);
    }

    @Holds(promise = 40, says = "How many: 0 PARTS, 1 PAPERS, 2 MARKS looked for (on all PARTS), 3 bytes on THE TAPE, 4 changes that may be UNDONE, 5 BODIES, 6 bodies that ran in the latest act().")
    static void countsFromNoneToFull() {
        Run run = new Run().each(0, "count(_)", 0, 1, 2, 3, 4, 5, 6);
        for (int part = 0; part < 8; part++) {
            run.made("part(0)").due(part + 1, "count(0)");
            for (int mark = 0; mark < 6; mark++) {
                run.made("find(" + (10 * part + mark) + ", " + (1 + mark % 2) + ")");
            }
            run.due(6 * part + 6, "count(2)");
        }
        run.made("find(75, 0)").due(47, "count(2)").made("find(75, 0)").due(47, "count(2)").made("find(74, 1)")
            .due(47, "count(2)");
        for (int i = 1; i <= 10; i++) {
            run.made("paper(0, 0)").due(i, "count(1)");
        }
        for (int i = 1; i <= 50; i++) {
            run.made("body(7)").due(i, "count(5)");
        }
        for (int i = 1; i <= 41; i++) {
            run.made("mend(0, 1, " + i + ")").due(Math.min(40, i), "count(4)");
        }
        run.made("undo()").due(39, "count(4)").made("redo()").due(40, "count(4)");
        run.made("act(49, 3, 0)").due(14, "count(6)").made("act(49, 0, 0)").due(2, "count(6)").made("act(50, 0, 0)")
            .due(0, "count(6)");
        Run tape = new Run();
        for (int i = 1; i <= 120; i++) {
            tape.made("feed(49)").due(i, "count(3)");
        }
        tape.due(-3, "feed(49)").due(120, "count(3)").due(-104, "law(0)").due(0, "count(3)");
    }

    @Holds(promise = 40, says = "BAD.")
    static void countRefusesAnyOther() {
        Edges.withAll().refused(-1, "count(_)", -1, 7, MIN, MAX);
        new Run().refused(-1, "count(_)", -1, 7);
    }
}
