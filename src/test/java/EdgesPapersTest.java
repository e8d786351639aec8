/** 'Terms', part 4, and promises 23 to 30: papers, draws, the image, changes. */
public final class EdgesPapersTest {
    private static final int MIN = Edges.MIN;
    private static final int MAX = Edges.MAX;

    public static void main(String[] args) {
        Edges.run(EdgesPapersTest.class);
    }

    /** So many changes: the value of TRUE goes from 0 to 1, 2 and so on. */
    private static Run changes(int many) {
        Run run = new Run();
        for (int i = 1; i <= many; i++) {
            run.due(i - 1, "mend(0, 1, " + i + ")");
        }
        return run;
    }

    /** Whether a mark with such a number was there on a true part shows in whether TRUE is named. */
    private static void drawnThere(int mark, int seed, int number, int times, int want) {
        Run run = Edges.withParts(0).law(mark, "k=0?" + number + ";10");
        run.due(want, "drawn(" + seed + ", " + times + ", 0)");
    }

    @Holds(promise = Holds.TERMS, says = "PAPERS 0 .. 9, as they come: from a TIME to a TIME (no earlier) in a HOUSE (0 .. 9).")
    static void tenPapersComeAndTheEleventhDoesNot() {
        Run run = new Run();
        for (int i = 0; i <= 9; i++) {
            run.due(i, "paper(" + 303 * i + ", " + i + ")").due(i, "house(" + 3 * i + ")").due(i + 1, "count(1)");
        }
        run.refused(-3, "paper(_, 0)", 0, 29, 2929);
    }

    @Holds(promise = Holds.TERMS, says = "from a TIME to a TIME (no earlier) in a HOUSE (0 .. 9).")
    static void toIsNoEarlierThanFrom() {
        Run run = new Run().due(0, "paper(0, 0)").due(1, "paper(2929, 9)").due(2, "paper(29, 0)")
            .due(3, "paper(1415, 9)");
        run.due(4, "paper(1414, 0)").refused(-1, "paper(_, 0)", 1413, 100, 2900, 2928)
            .refused(-1, "paper(0, _)", -1, 10);
    }

    @Holds(promise = Holds.TERMS, says = "CLASH: the first PAPER that has a TIME in common with an earlier one of another HOUSE; NOT.")
    static void oneTimeInCommonIsAClash() {
        for (int late : new int[] {510, 1520, 1010, 1515, 1212, 520, 1015}) {
            new Run().made("paper(1015, 1)", "paper(" + late + ", 2)").due(1, "papers(0)");
            new Run().made("paper(1015, 1)", "paper(" + late + ", 1)").due(-2, "papers(0)");
        }
        for (int late : new int[] {509, 1620, 9, 1629, 909, 1616}) {
            new Run().made("paper(1015, 1)", "paper(" + late + ", 2)").due(-2, "papers(0)");
        }
    }

    @Holds(promise = Holds.TERMS, says = "CLASH: the first PAPER")
    static void theFirstPaperThatClashesWithAnEarlierOne() {
        Run run = new Run().due(-2, "papers(0)").made("paper(0, 1)").due(-2, "papers(0)");
        run.made("paper(505, 1)", "paper(1010, 2)").due(-2, "papers(0)").made("paper(404, 1)", "paper(1515, 1)");
        run.made("paper(2020, 1)", "paper(2525, 1)", "paper(606, 1)", "paper(707, 1)").due(-2, "papers(0)");
        run.made("paper(10, 1)").due(9, "papers(0)");
        new Run().made("paper(0, 1)", "paper(0, 2)", "paper(0, 1)").due(1, "papers(0)");
        new Run().made("paper(0, 1)", "paper(0, 1)", "paper(0, 2)", "paper(0, 3)").due(2, "papers(0)");
    }

    @Holds(promise = Holds.TERMS, says = "GAPS: TIMES between the least and the greatest of all that none has (how many).")
    static void gapsLieBetweenTheLeastAndTheGreatest() {
        new Run().due(0, "papers(1)").made("paper(1515, 0)").due(0, "papers(1)");
        new Run().made("paper(0, 0)", "paper(2929, 0)").due(28, "papers(1)").made("paper(128, 5)").due(0, "papers(1)");
        new Run().made("paper(1010, 0)", "paper(1111, 0)").due(0, "papers(1)").made("paper(1313, 0)")
            .due(1, "papers(1)");
        Run run = new Run().made("paper(2020, 0)", "paper(510, 1)").due(9, "papers(1)").made("paper(1213, 2)")
            .due(7, "papers(1)");
        run.made("paper(303, 3)").due(8, "papers(1)").made("paper(1119, 3)").due(1, "papers(1)");
        run.made("paper(29, 4)").due(0, "papers(1)");
    }

    @Holds(promise = Holds.TERMS, says = "HOUSE of a TIME: that of the first PAPER that has it; NOT.")
    static void theFirstPaperThatHasTheTime() {
        Run run = new Run().each(-2, "house(_)", 0, 29).made("paper(512, 3)", "paper(1020, 0)", "paper(29, 9)");
        run.due(9, "house(4)").due(3, "house(5)").due(3, "house(12)").due(0, "house(13)").due(0, "house(20)");
        run.due(9, "house(21)").due(9, "house(0)").due(9, "house(29)");
        new Run().made("paper(512, 3)").due(-2, "house(4)").due(3, "house(5)").due(3, "house(12)").due(-2, "house(13)");
    }

    @Holds(promise = Holds.TERMS, says = "DRAWN: n times (1 .. 30) by a SEED for a PART of a told KIND and TIME:")
    static void drawnFrom1To30Times() {
        Run run = Edges.withParts(0).law(0, "k=3&y=29?100;0");
        run.due(1, "drawn(7, 1, 329)").due(30, "drawn(7, 30, 329)")
            .refused(-1, "drawn(7, _, 329)", -1, 0, 31, MIN, MAX);
        run.due(0, "drawn(7, 30, 328)").due(0, "drawn(7, 30, 229)").due(30, "drawn(7, 30, 0)");
    }

    @Holds(promise = Holds.TERMS, says = "MARK by MARK z = z * 1103515245 + 12345 (an int; SEED at first): there, if (z >>> 8) % 100 is below its number:")
    static void thereIfTheDrawIsBelowTheNumber() {
        // From seed 0 the six draws are 48, 38, 75, 88, 38, 48, and the seventh 18.
        int[] draws = {48, 38, 75, 88, 38, 48};
        for (int mark = 0; mark < 6; mark++) {
            drawnThere(mark, 0, draws[mark], 1, 0);
            drawnThere(mark, 0, draws[mark] + 1, 1, 1);
        }
        drawnThere(0, 0, 18, 2, 0);
        drawnThere(0, 0, 19, 2, 1);
        drawnThere(0, 0, 49, 2, 2);
    }

    @Holds(promise = Holds.TERMS, says = "(an int; SEED at first)")
    static void zWrapsAndItsSignIsNoSign() {
        int[][] firstDraws = {{2, 61}, {-1, 57}, {MIN, 56}, {MAX, 49}};
        for (int[] one : firstDraws) {
            drawnThere(0, one[0], one[1], 1, 0);
            drawnThere(0, one[0], one[1] + 1, 1, 1);
        }
    }

    @Holds(promise = Holds.TERMS, says = "how often the LIKELIEST KIND by all six is the told one.")
    static void whatIsFoundDoesNotMatterForDraws() {
        Run run = Edges.withParts(0).law(0, "k=0?100;0").made("find(0, 2)");
        run.due(30, "drawn(1, 30, 0)").due(30, "drawn(1, 30, 100)").due(0, "drawn(1, 30, 200)");
        // Where all is 0 none is likeliest.
        run.noBelief().due(0, "drawn(1, 30, 0)");
    }

    @Holds(promise = Holds.TERMS, says = "CHANGES (BELIEF, VALUE of KINDS; MINUTES, COST of MARKS; telling the same number is none) can be UNDONE, the latest first,")
    static void theLatestFirstAndTheSameIsNone() {
        Run run = new Run().made("mend(0, 0, 1)", "mend(0, 1, 0)", "mend(0, 2, 1)", "mend(0, 3, 10)")
            .due(0, "count(4)");
        run.made("mend(2, 0, 5)", "mend(3, 1, 50)", "mend(4, 2, 9)", "mend(5, 3, 0)", "mend(5, 3, 0)")
            .due(4, "count(4)");
        run.due(3, "undo()").due(10, "of(5, 31)").due(9, "of(4, 30)");
        run.due(2, "undo()").due(1, "of(4, 30)").due(50, "of(3, 21)");
        run.due(1, "undo()").due(0, "of(3, 21)").due(5, "of(2, 20)");
        run.due(0, "undo()").due(1, "of(2, 20)").refused(-5, "undo()");
        // No other calls are changes of this kind.
        new Run().made("part(0)", "find(0, 1)", "paper(0, 0)", "body(0)", "row(0, 0, 1)", "put(0, 0, 1)")
            .refused(-5, "undo()");
    }

    @Holds(promise = Holds.TERMS, says = "and DONE AGAIN (as long as no other came behind);")
    static void doneAgainAsLongAsNoOtherCame() {
        Run run = changes(3).made("undo()", "undo()");
        run.twin().made("mend(1, 1, 0)", "mend(0, 1, 1)").due(1, "redo()").due(2, "of(0, 21)").due(0, "redo()")
            .due(-5, "redo()");
        run.twin().due(-1, "mend(0, 1, 100)").due(-1, "mend(6, 1, 1)").due(1, "redo()");
        run.twin().made("part(0)", "find(0, 1)", "feed(49)", "image()", "back()").due(1, "redo()");
        Run other = run.twin().made("mend(1, 1, 5)");
        other.refused(-5, "redo()").due(2, "count(4)").due(1, "undo()").due(0, "redo()").due(5, "of(1, 21)")
            .due(-5, "redo()");
    }

    @Holds(promise = Holds.TERMS, says = "40 at most are kept.")
    static void ofMoreThan40TheOldestGoes() {
        for (int many : new int[] {39, 40, 41, 60}) {
            int kept = Math.min(40, many);
            Run run = changes(many).due(kept, "count(4)");
            for (int i = kept - 1; i >= 0; i--) {
                run.due(i, "undo()").due(many - kept + i, "of(0, 21)");
            }
            run.due(-5, "undo()").due(many - kept, "of(0, 21)");
            for (int i = kept - 1; i >= 0; i--) {
                run.due(i, "redo()").due(many - i, "of(0, 21)");
            }
            run.due(-5, "redo()").due(kept, "count(4)");
        }
        // Each change goes back in its own place: here number 1 to 42 goes round all six kinds.
        Run round = new Run();
        for (int i = 1; i <= 42; i++) {
            round.made("mend(" + i % 6 + ", 1, " + i + ")");
        }
        for (int i = 42; i >= 3; i--) {
            round.due(i - 3, "undo()").due(i > 6 ? i - 6 : 0, "of(" + i % 6 + ", 21)");
        }
        round.due(-5, "undo()").due(1, "of(1, 21)").due(2, "of(2, 21)").due(0, "of(3, 21)");
        changes(40).made("undo()").due(0, "mend(5, 1, 9)").due(40, "count(4)").refused(-5, "redo()");
    }

    @Holds(promise = Holds.TERMS, says = "AN IMAGE keeps what was FOUND.")
    static void theImageKeepsOnlyWhatWasFound() {
        Run run = Edges.withParts(0, 0).law(0, "1")
            .made("find(0, 1)", "mend(0, 0, 5)", "paper(0, 0)", "body(0)", "image()");
        run.law(0, "2").made("find(0, 2)", "mend(0, 0, 6)", "paper(0, 0)", "body(0)", "feed(49)", "back()");
        run.due(1, "of(0, 10)").due(6, "of(0, 20)").due(2, "number(0, 0)").due(2, "count(1)").due(2, "count(5)")
            .due(1, "count(3)");
    }

    @Holds(promise = 23, says = "A PAPER (ft: 100 times from, and to): its number.")
    static void paperTakesTimesFrom0To29() {
        Run run = new Run().due(0, "paper(0, 0)").due(1, "paper(29, 1)").due(2, "paper(2929, 2)");
        run.due(0, "house(0)").due(1, "house(1)").due(1, "house(29)");
        run.refused(-1, "paper(_, 0)", -1, -100, -101, 30, 99, 1030, 3000, 3030, 2930, MIN, MAX);
    }

    @Holds(promise = 23, says = "BAD, FULL: 10.")
    static void paperRefusesAndIsFullWithTen() {
        Edges.withAll().refused(-1, "paper(_, 0)", -1, 30, 100, 2928, 3030, MIN, MAX)
            .refused(-1, "paper(0, _)", -1, 10, MIN, MAX);
        Run run = new Run();
        for (int i = 0; i < 9; i++) {
            run.made("paper(0, 0)");
        }
        run.refused(-1, "paper(0, 10)").due(9, "paper(0, 0)").refused(-3, "paper(_, 0)", 0, 29)
            .refused(-1, "paper(0, 10)");
    }

    @Holds(promise = 24, says = "CLASH (what 0; NOT), GAPS (1).")
    static void clashAndGaps() {
        Run run = new Run().due(-2, "papers(0)").due(0, "papers(1)").made("paper(1012, 0)", "paper(1515, 1)");
        run.due(-2, "papers(0)").due(2, "papers(1)").made("paper(1213, 1)").due(2, "papers(0)").due(1, "papers(1)");
    }

    @Holds(promise = 24, says = "BAD.")
    static void papersRefusesAnyOther() {
        Edges.withAll().refused(-1, "papers(_)", -1, 2, MIN, MAX);
        new Run().refused(-1, "papers(_)", -1, 2).refused(-2, "papers(0)");
    }

    @Holds(promise = 25, says = "HOUSE of a TIME.")
    static void houseOfTheFirstAndTheLastTime() {
        new Run().made("paper(29, 7)").due(7, "house(0)").due(7, "house(29)");
    }

    @Holds(promise = 25, says = "BAD; NOT.")
    static void houseRefusesWhatIsNoTimeAndIsNotWhereNoPaperIs() {
        Edges.withAll().refused(-1, "house(_)", -1, 30, MIN, MAX).refused(-2, "house(_)", 0, 2, 6, 9, 21, 29);
        new Run().refused(-2, "house(_)", 0, 29).refused(-1, "house(_)", -1, 30);
    }

    @Holds(promise = 26, says = "DRAWN (pkt: 1000 times the PART, 100 times the KIND, and the TIME).")
    static void drawnOfTheFirstAndTheLast() {
        Run run = Edges.withParts(0, 0, 0, 0, 0, 0, 0, 90).law(0, "w=9&k=5&y=29?100;0");
        run.due(30, "drawn(3, 30, 7529)").due(0, "drawn(3, 30, 7528)").due(30, "drawn(3, 30, 7000)");
        run.due(0, "drawn(3, 30, 6529)").due(30, "drawn(3, 30, 0)");
    }

    @Holds(promise = 26, says = "BAD.")
    static void drawnRefusesWhatIsNoPartKindTimeOrNumber() {
        Run run = Edges.withAll();
        run.refused(-1, "drawn(5, 1, _)", -1, -100, -1000, 30, 99, 600, 900, 3600, 3530, 4000, 8000, MIN, MAX);
        run.refused(-1, "drawn(5, _, 0)", -1, 0, 31, MIN, MAX);
        new Run().refused(-1, "drawn(5, 1, 0)");
    }

    @Holds(promise = 27, says = "AN IMAGE is kept: how many PARTS.")
    static void imageOfNoneAndOfEight() {
        Run run = new Run();
        for (int parts = 0; parts <= 8; parts++) {
            run.due(parts, "image()").due(parts < 8 ? parts : -3, "part(0)");
        }
        // The latest one counts.
        run.made("find(75, 1)", "image()", "find(75, 2)", "image()", "find(75, 0)").due(8, "back()")
            .due(2, "of(7, 15)");
    }

    @Holds(promise = 28, says = "FOUND is as in THE IMAGE (of PARTS that came since: nothing): how many PARTS.")
    static void partsThatCameSinceHaveNothingFound() {
        Run run = Edges.withParts(0)
            .made("find(0, 1)", "find(5, 2)", "image()", "find(0, 2)", "find(5, 0)", "find(3, 1)");
        run.made("part(0)", "find(10, 1)", "find(15, 2)").due(2, "back()").due(1, "of(0, 10)").due(2, "of(0, 15)")
            .due(0, "of(0, 13)");
        run.each(0, "of(1, _)", 10, 11, 12, 13, 14, 15).due(2, "count(2)");
        // It can be gone back to once more.
        run.made("find(10, 1)", "find(0, 0)").due(2, "back()").due(0, "of(1, 10)").due(1, "of(0, 10)");
        Run none = new Run().made("image()").due(0, "back()").made("part(0)", "find(0, 1)").due(1, "back()")
            .due(0, "of(0, 10)");
        for (int parts = 2; parts <= 8; parts++) {
            none.made("part(0)").due(parts, "back()");
        }
    }

    @Holds(promise = 28, says = "STATE: there is none.")
    static void withoutAnImageThereIsNoWayBack() {
        new Run().refused(-5, "back()");
        Edges.withParts(0).made("find(0, 1)", "mend(0, 0, 2)").refused(-5, "back()").made("image()").due(1, "back()");
    }

    @Holds(promise = 29, says = "UNDONE: how many may still be.")
    static void undoCountsDownToNone() {
        Run run = changes(40);
        for (int left = 39; left >= 0; left--) {
            run.due(left, "undo()").due(left, "count(4)");
        }
        run.due(0, "of(0, 21)");
    }

    @Holds(promise = 29, says = "STATE: none.")
    static void undoHasNone() {
        new Run().refused(-5, "undo()");
        changes(1).due(0, "undo()").refused(-5, "undo()").due(0, "redo()").due(0, "undo()").refused(-5, "undo()");
        Edges.withAll().made("undo()", "undo()", "undo()").refused(-5, "undo()");
    }

    @Holds(promise = 30, says = "DONE AGAIN: how many may still be.")
    static void redoCountsDownToNone() {
        Run run = changes(40);
        for (int i = 0; i < 40; i++) {
            run.made("undo()");
        }
        for (int left = 39; left >= 0; left--) {
            run.due(left, "redo()").due(40 - left, "count(4)");
        }
        run.due(40, "of(0, 21)");
    }

    @Holds(promise = 30, says = "STATE: none.")
    static void redoHasNone() {
        new Run().refused(-5, "redo()");
        changes(1).refused(-5, "redo()").made("undo()").due(0, "redo()").refused(-5, "redo()");
        Edges.withAll().made("redo()", "redo()").refused(-5, "redo()");
    }
}
