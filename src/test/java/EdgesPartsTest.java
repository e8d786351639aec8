/** Promises 1 to 9, and 'PARTS FROM A ROW' of 'Terms', part 5. */
public final class EdgesPartsTest {
    private static final int MIN = Edges.MIN;
    private static final int MAX = Edges.MAX;

    public static void main(String[] args) {
        Edges.run(EdgesPartsTest.class);
    }

    private static Run bytes(int... bytes) {
        return new Run().bytesOn(0, bytes);
    }

    @Holds(promise = Holds.TERMS, says = "PARTS FROM A ROW of bytes, from a place on: by twos WOOD, PLACE: n of them;")
    static void partsComeByTwosFromAPlaceOn() {
        Run run = bytes(1, 2, 3, 4, 5, 6);
        run.twin().due(1, "parts(0, 0, 1)").due(1, "of(0, 0)").due(2, "of(0, 1)").due(1, "count(0)");
        run.twin().due(2, "parts(0, 0, 2)").due(3, "of(1, 0)").due(4, "of(1, 1)").due(2, "count(0)");
        run.twin().due(2, "parts(0, 1, 2)").due(2, "of(0, 0)").due(3, "of(0, 1)").due(5, "of(1, 1)");
        run.twin().due(1, "parts(0, 4, 1)").due(5, "of(0, 0)").due(6, "of(0, 1)");
        Run full = bytes(9, 9, 8, 8, 7, 7, 6, 6, 5, 5, 4, 4, 3, 3, 2, 2, 1, 1);
        full.due(8, "parts(0, 0, 8)").due(9, "of(0, 0)").due(2, "of(7, 1)");
    }

    @Holds(promise = Holds.TERMS, says = "it ends where the row is missing,")
    static void ofAMissingRowNoneComes() {
        new Run().refused(0, "parts(0, 0, _)", 1, 8).refused(0, "parts(5, _, 8)", -1, 0, 60, MIN, MAX);
        Edges.withAll().refused(0, "parts(5, 0, 8)");
        bytes(1, 2).made("keep(0, -1)").refused(0, "parts(0, 0, 1)");
    }

    @Holds(promise = Holds.TERMS, says = "ends (within a two, too),")
    static void whereTheRowEndsThoseAheadCame() {
        bytes(1, 2, 3, 4).due(2, "parts(0, 0, 3)").due(2, "count(0)");
        bytes(1, 2, 3, 4, 5).due(2, "parts(0, 0, 8)").due(2, "count(0)").due(2, "parts(0, 1, 8)").due(4, "of(3, 0)");
        bytes(1, 2, 3).refused(0, "parts(0, _, 1)", 2, 3, 4, 60, MAX).due(1, "parts(0, 1, 1)");
        // A place ahead of the row is none of it either.
        bytes(1, 2, 3).refused(0, "parts(0, _, 8)", -1, -2, MIN);
        bytes(1).refused(0, "parts(0, 0, 1)");
        bytes().refused(0, "parts(0, _, 1)", 0, 1);
        Run row = new Run().made("row(0, 0, 60)");
        row.refused(0, "parts(0, _, 1)", 59, 60, 61).due(1, "parts(0, 58, 8)").due(1, "parts(0, 57, 8)");
    }

    @Holds(promise = Holds.TERMS, says = "one is not so,")
    static void whereOneIsNoWoodOrPlaceThoseAheadCame() {
        for (int wrong : new int[] {10, -1, 127, -128}) {
            bytes(0, 9, 9, 0, wrong, 1, 1, 1).due(2, "parts(0, 0, 8)").due(2, "count(0)").due(9, "of(1, 0)")
                .due(0, "of(1, 1)");
            bytes(0, 9, 9, 0, 1, wrong, 1, 1).due(2, "parts(0, 0, 8)").due(2, "count(0)").due(1, "parts(0, 6, 8)");
            bytes(wrong, 1).refused(0, "parts(0, 0, 1)");
            bytes(1, wrong).refused(0, "parts(0, 0, 1)");
        }
    }

    @Holds(promise = Holds.TERMS, says = "or PARTS are FULL: those ahead came.")
    static void whereThePartsAreFullThoseAheadCame() {
        Run run = new Run().made("row(0, 0, 20)").due(5, "parts(0, 0, 5)").due(3, "parts(0, 0, 8)").due(8, "count(0)");
        run.refused(0, "parts(0, 0, _)", 1, 8);
        Run seven = Edges.withParts(0, 0, 0, 0, 0, 0, 0).bytesOn(0, 1, 2, 3, 4).due(1, "parts(0, 0, 2)")
            .due(1, "of(7, 0)");
        seven.refused(0, "parts(0, 0, 1)");
    }

    @Holds(promise = 1, says = "No parts, no papers.")
    static void aNewObjectHasNothing() {
        Run run = new Run().each(0, "count(_)", 0, 1, 2, 3, 4, 5, 6).due(-2, "papers(0)").due(0, "papers(1)");
        run.each(-1, "of(_, 0)", 0, 7).each(-2, "house(_)", 0, 29).each(-11, "taken(_, 0)", 0, 5);
        run.due(-5, "back()").due(-5, "undo()").due(-5, "redo()").due(-1, "trace(0)").due(100, "whole(0)")
            .due(0, "odd()");
    }

    @Holds(promise = 2, says = "A PART (wp: 10 WOOD and PLACE): its number.")
    static void partTakes0To99() {
        Run run = new Run().due(0, "part(0)").due(1, "part(99)").due(2, "part(47)");
        run.due(0, "of(0, 0)").due(0, "of(0, 1)").due(9, "of(1, 0)").due(9, "of(1, 1)").due(4, "of(2, 0)")
            .due(7, "of(2, 1)");
        run.refused(-1, "part(_)", -1, 100).due(3, "part(9)").due(4, "part(90)");
    }

    @Holds(promise = 2, says = "BAD, FULL: 8.")
    static void partRefusesAndIsFullWith8() {
        Edges.withAll().refused(-1, "part(_)", -1, -10, 100, 101, MIN, MAX);
        Run run = Edges.withParts(1, 2, 3, 4, 5, 6, 7).refused(-1, "part(_)", -1, 100).due(7, "part(8)");
        run.refused(-3, "part(_)", 0, 99).refused(-1, "part(_)", -1, 100, MIN, MAX);
    }

    @Holds(promise = 3, says = "PARTS FROM A ROW on a SHELF, from place i on, n (1 .. 8) of them: how many came.")
    static void partsTakes1To8() {
        Run run = new Run().made("row(5, 0, 60)").due(1, "parts(5, 58, 1)").due(1, "parts(5, 0, 1)")
            .due(6, "parts(5, 0, 8)");
        run.refused(-1, "parts(5, 0, _)", -1, 0, 9);
        new Run().made("row(0, 0, 60)").due(8, "parts(0, 0, 8)");
    }

    @Holds(promise = 3, says = "BAD, -12 (no ROW of bytes; a SHELF that holds nothing is missing).")
    static void partsRefusesWhatIsNoShelfOrNumberOrRowOfBytes() {
        Run run = Edges.withAll().refused(-1, "parts(_, 0, 1)", -1, 6, MIN, MAX)
            .refused(-1, "parts(0, 0, _)", -1, 0, 9, MIN, MAX);
        run.refused(-1, "parts(5, 0, _)", 0, 9).refused(-12, "parts(_, 0, 1)", 1, 2, 3)
            .refused(-12, "parts(3, _, 8)", -1, 60);
        run.refused(0, "parts(5, 0, 1)").due(1, "parts(0, 0, 1)");
        for (int sort = 1; sort <= 4; sort++) {
            new Run().made("row(0, " + sort + ", 4)").refused(-12, "parts(0, 0, _)", 1, 8)
                .refused(-1, "parts(0, 0, _)", 0, 9);
        }
    }

    @Holds(promise = 4, says = "BELIEF (what 0), VALUE (1) of a KIND, MINUTES (2), COST (3) of a MARK becomes v: what it was.")
    static void mendTakesTheLeastAndTheGreatest() {
        int[] first = {1, 0, 1, 10};
        int[] least = {0, 0, 1, 0};
        int[] most = {9, 99, 9, 99};
        int[] asked = {20, 21, 30, 31};
        for (int what = 0; what <= 3; what++) {
            for (int number : new int[] {0, 5}) {
                String mend = "mend(" + number + ", " + what + ", ";
                Run run = new Run().due(first[what], mend + most[what] + ")")
                    .due(most[what], "of(" + number + ", " + asked[what] + ")");
                run.due(most[what], mend + least[what] + ")").due(least[what], mend + least[what] + ")");
                run.each(first[what], "of(_, " + asked[what] + ")", 1, 2, 3, 4, 5 - number)
                    .refused(-1, mend + "_)", least[what] - 1, most[what] + 1);
            }
        }
    }

    @Holds(promise = 4, says = "BAD.")
    static void mendRefusesWhatIsNoKindMarkOrNumber() {
        Run run = Edges.withAll();
        for (int what = 0; what <= 3; what++) {
            run.refused(-1, "mend(_, " + what + ", 1)", -1, 6, MIN, MAX)
                .refused(-1, "mend(0, " + what + ", _)", -1, 100, MIN, MAX);
        }
        run.refused(-1, "mend(0, 0, 10)").refused(-1, "mend(0, 2, _)", 0, 10)
            .refused(-1, "mend(0, _, 1)", -1, 4, MIN, MAX);
    }

    @Holds(promise = 5, says = "FOUND (pm: 10 times the PART and the MARK) becomes v (0, 1, 2): what it was.")
    static void findTakes0To2OnTheFirstAndTheLast() {
        Run run = Edges.withParts(0, 0, 0, 0, 0, 0, 0, 0);
        for (int pm : new int[] {0, 5, 70, 75}) {
            run.due(0, "find(" + pm + ", 0)").due(0, "find(" + pm + ", 1)").due(1, "find(" + pm + ", 2)")
                .due(2, "find(" + pm + ", 2)");
            run.due(2, "find(" + pm + ", 1)").due(1, "find(" + pm + ", 1)").due(1, "find(" + pm + ", 0)")
                .due(0, "find(" + pm + ", 2)");
            run.due(2, "of(" + pm / 10 + ", " + (10 + pm % 10) + ")");
        }
        run.due(4, "count(2)").refused(-1, "find(75, _)", -1, 3);
    }

    @Holds(promise = 5, says = "BAD.")
    static void findRefusesWhatIsNoPartMarkOrFinding() {
        Run run = Edges.withAll().refused(-1, "find(_, 1)", -1, -10, -11, 6, 9, 16, 36, 40, 80, MIN, MAX);
        run.refused(-1, "find(0, _)", -1, 3, MIN, MAX);
        new Run().refused(-1, "find(_, 1)", 0, 5);
    }

    @Holds(promise = 6, says = "Of a PART: 0 WOOD, 1 PLACE, 10 to 15 FOUND of MARK 0 to 5; of a KIND: 20 BELIEF, 21 VALUE; of a MARK: 30 MINUTES, 31 COST.")
    static void ofTakesTheseAlone() {
        Run run = Edges.withParts(0, 0, 0, 0, 0, 0, 0, 38).made("find(70, 1)", "find(75, 2)");
        run.due(3, "of(7, 0)").due(8, "of(7, 1)").due(1, "of(7, 10)").due(0, "of(7, 11)").due(2, "of(7, 15)")
            .due(0, "of(0, 0)");
        run.made("mend(5, 0, 2)", "mend(5, 1, 3)", "mend(5, 2, 4)", "mend(5, 3, 5)");
        run.due(2, "of(5, 20)").due(3, "of(5, 21)").due(4, "of(5, 30)").due(5, "of(5, 31)").due(1, "of(0, 20)")
            .due(10, "of(0, 31)");
        run.refused(-1, "of(7, _)", 2, 9, 16, 20, 31).refused(-1, "of(0, _)", -1, 2, 9, 16, 19, 22, 29, 32);
        // Kinds and marks are there without parts.
        new Run().due(1, "of(0, 20)").due(0, "of(5, 21)").due(1, "of(0, 30)").due(10, "of(5, 31)");
    }

    @Holds(promise = 6, says = "BAD.")
    static void ofRefusesWhatIsNoPartKindOrMark() {
        Run run = Edges.withAll().refused(-1, "of(0, _)", -1, 2, 9, 16, 19, 22, 29, 32, MIN, MAX);
        for (int what : new int[] {0, 1, 10, 15}) {
            run.refused(-1, "of(_, " + what + ")", -1, 4, 8, MIN, MAX);
        }
        for (int what : new int[] {20, 21, 30, 31}) {
            run.refused(-1, "of(_, " + what + ")", -1, 6, MIN, MAX);
        }
        new Run().refused(-1, "of(0, _)", 0, 1, 10, 15);
    }

    @Holds(promise = 7, says = "A byte (0 .. 255) comes to THE TAPE: how many it has.")
    static void feedTakes0To255() {
        new Run().due(1, "feed(0)").due(2, "feed(255)").due(3, "feed(49)").refused(-1, "feed(_)", -1, 256)
            .due(3, "count(3)");
        // A byte is what it is: 0 and 255 are faults, 49 is a digit.
        new Run().made("feed(49)", "feed(255)").due(-101, "law(0)").made("feed(49)", "feed(0)").due(-101, "law(0)");
    }

    @Holds(promise = 7, says = "BAD, FULL (120).")
    static void feedRefusesAndIsFullWith120() {
        Edges.withAll().refused(-1, "feed(_)", -1, 256, 305, MIN, MAX);
        Run run = new Run();
        for (int i = 1; i <= 119; i++) {
            run.due(i, "feed(33)");
        }
        run.refused(-1, "feed(_)", -1, 256).due(120, "feed(33)").refused(-3, "feed(_)", 0, 33, 255)
            .refused(-1, "feed(_)", -1, 256);
        run.due(-106, "law(0)").due(1, "feed(33)");
    }

    @Holds(promise = 8, says = "THE TAPE becomes THE LAW of a MARK: 1;")
    static void lawOfTheFirstAndTheLastMark() {
        Run run = Edges.withParts(0, 0).law(0, "7").law(5, "8").due(7, "number(0, 0)").due(8, "number(5, 0)")
            .due(50, "number(1, 0)");
        run.due(7, "number(10, 529)").law(0, "9").due(9, "number(0, 0)").due(9, "number(10, 529)")
            .due(8, "number(15, 0)");
        // Of parts that come later, too, and for what was found before.
        run.made("find(0, 1)").law(0, "k=0").due(100, "percent(0)").made("part(0)").due(1, "number(20, 0)")
            .due(0, "number(20, 100)");
    }

    @Holds(promise = 8, says = "-100 less its FAULT;")
    static void lawAnswersTheFaultAndTheOldLawStays() {
        Run run = Edges.withParts(0).due(-100, "law(0)").fed("y?").due(-102, "law(0)").fed("x").due(-100, "law(0)");
        run.law(0, "7").fed("8+").due(-102, "law(0)").due(7, "number(0, 0)").due(-100, "law(0)").due(7, "number(0, 0)");
        new Run().fed("1" + "+1".repeat(59) + "+").due(-220, "law(5)");
    }

    @Holds(promise = 8, says = "THE TAPE is empty then.")
    static void theTapeIsEmptyBehindALawAndBehindAFault() {
        new Run().fed("123").due(1, "law(0)").due(0, "count(3)").due(-100, "law(0)").due(1, "feed(49)");
        new Run().fed("12)45").due(-102, "law(0)").due(0, "count(3)").due(1, "feed(49)").due(1, "law(0)");
    }

    @Holds(promise = 8, says = "BAD (it stays).")
    static void aMarkThatIsNotThereLeavesTheTape() {
        Edges.withAll().refused(-1, "law(_)", -1, 6, MIN, MAX);
        new Run().refused(-1, "law(_)", -1, 6);
        Edges.withParts(0).fed("12").due(-1, "law(6)").due(-1, "law(-1)").due(2, "count(3)").fed("").due(3, "feed(51)")
            .due(1, "law(5)").due(100, "number(5, 0)");
        Edges.withParts(0).fed("1)").refused(-1, "law(_)", -1, 6).due(-101, "law(5)");
    }

    @Holds(promise = 9, says = "A MARK's number (pm) for a KIND and TIME (kt: 100 times the KIND, and the TIME).")
    static void numberOfTheFirstAndTheLast() {
        Run run = Edges.withParts(0, 0, 0, 0, 0, 0, 0, 12).law(5, "k*10+y+w").law(0, "k*5+y+p");
        run.due(0, "number(5, 0)").due(29, "number(5, 29)").due(50, "number(5, 500)").due(79, "number(5, 529)");
        run.due(1, "number(75, 0)").due(80, "number(75, 529)").due(56, "number(70, 529)").due(50, "number(74, 529)");
    }

    @Holds(promise = 9, says = "BAD.")
    static void numberRefusesWhatIsNoPartMarkKindOrTime() {
        Run run = Edges.withAll().refused(-1, "number(_, 0)", -1, -10, 6, 9, 16, 36, 40, 80, MIN, MAX);
        run.refused(-1, "number(0, _)", -1, -100, 30, 99, 130, 530, 600, 629, MIN, MAX);
        new Run().refused(-1, "number(_, 0)", 0, 5);
    }
}
