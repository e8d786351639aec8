/** 'What it is', and 'Terms' but for THE LAW and the parts 2 to 5: times, kinds, parts, marks; and the answers. */
public final class EdgesTimesTest {
    private static final int MIN = Edges.MIN;
    private static final int MAX = Edges.MAX;

    public static void main(String[] args) {
        Edges.run(EdgesTimesTest.class);
    }

    /** What mend() tells and of() is asked for: first at first, then from least to most. */
    private static void toldWithin(int told, int asked, int first, int least, int most) {
        String mend = "mend(5, " + told + ", ";
        String of = "of(5, " + asked + ")";
        Run run = new Run().each(first, "of(_, " + asked + ")", 0, 1, 2, 3, 4, 5);
        run.refused(-1, mend + "_)", least - 1, most + 1, MIN, MAX);
        run.due(first, mend + most + ")").due(most, of).refused(-1, mend + "_)", least - 1, most + 1);
        run.due(most, mend + least + ")").due(least, of).refused(-1, mend + "_)", least - 1, most + 1);
    }

    @Holds(promise = Holds.WHAT_IT_IS, says = "An object is used for at most 512 calls after it has been made")
    static void theCall512IsAnsweredAsAnyOther() {
        Run run = Edges.withParts(12);
        for (int i = 2; i <= 509; i++) {
            run.made("mend(0, 1, " + (i % 2 == 0 ? 41 : 40) + ")");
        }
        // Call 510, 511 (16 of 100 times 99) and 512.
        run.due(40, "mend(0, 1, 99)").due(15, "price(0)").due(39, "undo()");
        if (run.callsMade() != 512) {
            Edges.fail(run.callsMade() + " calls instead of 512");
        }
    }

    @Holds(promise = Holds.TERMS, says = "29 (decades from 1650 on).")
    static void timesGoFrom0To29() {
        Run run = Edges.withParts(0).law(0, "y").law(1, "k=0?100;k=1&y=0?100;0");
        run.due(0, "number(0, 0)").due(29, "number(0, 29)").refused(-1, "number(0, _)", -1, 30, 99);
        run.due(0, "when(0, 1)").due(29, "when(0, 2)");
        // TRUE has all the times and ELSEWHERE one: 30 of 31.
        run.made("find(1, 1)").due(30, "likely(0, 0)").due(31, "likely(0, 1)");
        run.due(0, "paper(29, 0)").refused(-1, "paper(_, 0)", 30, 3030).due(0, "house(0)").due(0, "house(29)");
        run.refused(-1, "house(_)", -1, 30).made("drawn(1, 1, 29)").refused(-1, "drawn(1, 1, _)", -1, 30);
    }

    @Holds(promise = Holds.TERMS, says = "KINDS 0 TRUE, 1 ELSEWHERE, 2 MENDED, 3 NEW, 4 AGED, 5 SPLIT;")
    static void kindsGoFrom0To5AndTheFirstIsTrue() {
        Run run = Edges.withParts(0).law(0, "k");
        for (int kind = 0; kind <= 5; kind++) {
            run.due(kind, "number(0, " + 100 * kind + ")").due(16, "percent(" + kind + ")");
        }
        run.refused(-1, "number(0, _)", -100, 600).refused(-1, "percent(_)", -1, 6);
        run.law(1, "k=0?100;0").made("find(1, 1)").due(100, "percent(0)").due(100, "whole(0)");
    }

    @Holds(promise = Holds.TERMS, says = "each has a BELIEF (0 .. 9; 1 at first)")
    static void beliefIs1AtFirstThen0To9() {
        toldWithin(0, 20, 1, 0, 9);
    }

    @Holds(promise = Holds.TERMS, says = "and a VALUE (0 .. 99; 0 at first).")
    static void valueIs0AtFirstThen0To99() {
        toldWithin(1, 21, 0, 0, 99);
    }

    @Holds(promise = Holds.TERMS, says = "PARTS 0 .. 7, as they come:")
    static void partsAreNumberedFrom0To7() {
        Run run = new Run().refused(-1, "of(_, 0)", -1, 0);
        for (int i = 0; i <= 7; i++) {
            run.due(i, "part(" + (11 * i + 1) + ")").due(i, "of(" + i + ", 0)").due(i + 1, "of(" + i + ", 1)");
            run.due(-1, "of(" + (i + 1) + ", 0)");
        }
        run.refused(-3, "part(0)").refused(-1, "of(_, 0)", -1, 8).refused(-1, "likeliest(_)", -1, 8);
    }

    @Holds(promise = Holds.TERMS, says = "WOOD (0 .. 9), PLACE (0 .. 9).")
    static void woodAndPlaceGoFrom0To9() {
        Run run = Edges.withParts(0, 9, 90, 99);
        run.due(0, "of(0, 0)").due(0, "of(0, 1)").due(0, "of(1, 0)").due(9, "of(1, 1)");
        run.due(9, "of(2, 0)").due(0, "of(2, 1)").due(9, "of(3, 0)").due(9, "of(3, 1)");
        run.refused(-1, "part(_)", -1, 100);
        run.bytesOn(0, 0, 10, 10, 0, -1, 0, 0, -1, 9, 0);
        run.each(0, "parts(0, _, 1)", 0, 2, 4, 6).due(1, "parts(0, 8, 1)").due(9, "of(4, 0)");
    }

    @Holds(promise = Holds.TERMS, says = "MARKS 0 .. 5:")
    static void marksGoFrom0To5() {
        Run run = Edges.withParts(0, 0);
        run.each(0, "find(_, 1)", 0, 5, 10, 15).refused(-1, "find(_, 1)", -1, 6, 9, 16);
        run.each(50, "number(_, 0)", 0, 5, 10, 15).refused(-1, "number(_, 0)", -1, 6, 9, 16);
        run.law(0, "1").law(5, "2").fed("3").refused(-1, "law(_)", -1, 6);
        run.each(1, "of(_, 30)", 0, 5).refused(-1, "of(_, 30)", -1, 6);
    }

    @Holds(promise = Holds.TERMS, says = "each takes MINUTES (1 .. 9; 1 at first) to look for,")
    static void minutesAre1AtFirstThen1To9() {
        toldWithin(2, 30, 1, 1, 9);
    }

    @Holds(promise = Holds.TERMS, says = "and COSTS a maker (0 .. 99; 10 at first).")
    static void costIs10AtFirstThen0To99() {
        toldWithin(3, 31, 10, 0, 99);
    }

    @Holds(promise = Holds.TERMS, says = "FOUND: of each PART and MARK: 0 not looked for, 1 there, 2 not there.")
    static void foundIs0Or1Or2() {
        Run run = Edges.withParts(0, 0).law(3, "k=0?100;0");
        run.each(0, "of(1, _)", 10, 11, 12, 13, 14, 15).due(16, "percent(10)");
        run.due(0, "find(13, 1)").due(1, "of(1, 13)").due(100, "percent(10)");
        run.due(1, "find(13, 2)").due(2, "of(1, 13)").due(0, "percent(10)");
        run.due(2, "find(13, 0)").due(0, "of(1, 13)").due(16, "percent(10)");
        run.refused(-1, "find(13, _)", -1, 3).each(0, "of(0, _)", 10, 11, 12, 13, 14, 15);
    }

    @Holds(promise = Holds.TERMS, says = "Answers, of several the one named first:")
    static void badComesAheadOfFull() {
        Run parts = Edges.withParts(0, 1, 2, 3, 4, 5, 6, 7);
        parts.refused(-3, "part(_)", 0, 99).refused(-1, "part(_)", -1, 100, MIN, MAX);
        Run tape = new Run();
        for (int i = 1; i <= 120; i++) {
            tape.due(i, "feed(49)");
        }
        tape.refused(-3, "feed(_)", 0, 255).refused(-1, "feed(_)", -1, 256, MIN, MAX);
        Run papers = new Run();
        for (int i = 0; i < 10; i++) {
            papers.due(i, "paper(29, 0)");
        }
        papers.refused(-3, "paper(_, 9)", 0, 2929).refused(-1, "paper(_, 9)", -1, 30, 100)
            .refused(-1, "paper(0, _)", -1, 10);
        Run bodies = new Run();
        for (int i = 0; i < 50; i++) {
            bodies.due(i, "body(" + i % 8 + ")");
        }
        bodies.refused(-3, "body(_)", 0, 7).refused(-1, "body(_)", -1, 8, MIN, MAX);
    }

    @Holds(promise = Holds.TERMS, says = "Answers, of several the one named first:")
    static void badComesAheadOfNot() {
        Run run = Edges.withParts(0).noBelief();
        run.refused(-2, "likeliest(0)").refused(-1, "likeliest(_)", -1, 1);
        run.refused(-2, "when(0, _)", 0, 1, 2).refused(-1, "when(0, _)", -1, 3).refused(-1, "when(_, 0)", -1, 6, 10);
        run.refused(-2, "named(0, _)", 0, 63).refused(-1, "named(0, _)", -1, 64).refused(-1, "named(1, 0)");
        run.refused(-2, "plan(0, _)", 0, 54).refused(-1, "plan(0, _)", -1, 55).refused(-1, "plan(1, 0)");
        run.refused(-2, "cheapest(0, _, 0)", 1, 100).refused(-1, "cheapest(0, _, 0)", -1, 101);
        run.refused(-1, "cheapest(0, 100, _)", -1, 2).refused(-1, "cheapest(1, 100, 0)");
        run.refused(-2, "spoils(0, 0)").refused(-1, "spoils(_, 0)", -1, 1);
        run.refused(-2, "house(_)", 0, 29).refused(-1, "house(_)", -1, 30);
        run.refused(-2, "papers(0)").refused(-1, "papers(_)", -1, 2);
        run.made("find(0, 1)", "find(1, 1)", "find(2, 1)", "find(3, 1)", "find(4, 1)", "find(5, 1)");
        run.refused(-2, "next(0)").refused(-1, "next(_)", -1, 1);
    }

    @Holds(promise = Holds.TERMS, says = "Answers, of several the one named first:")
    static void badComesAheadOfTheHostsRefusalsAndTheseByTheirOrder() {
        Run run = new Run().made("body(3)", "keep(0, 0)", "row(1, 0, 2)", "row(2, 1, 2)");
        run.refused(-12, "parts(_, 0, 1)", 0, 2).refused(-1, "parts(_, 0, 0)", 0, 2)
            .refused(-1, "parts(_, 0, 9)", 0, 2);
        run.refused(-14, "row(0, 0, -1)").refused(-1, "row(0, 5, -1)").refused(-1, "row(6, 0, -1)");
        run.refused(-1, "put(6, -1, 0)").refused(-11, "put(3, -1, 0)").refused(-12, "put(0, -1, 0)");
        run.refused(-13, "put(1, -1, 0)");
        run.refused(-1, "shift(6, -1, 3, -1, -1)").refused(-1, "shift(3, -1, 6, -1, -1)");
        run.refused(-11, "shift(3, -1, 0, -1, -1)").refused(-11, "shift(0, -1, 3, -1, -1)");
        run.refused(-11, "shift(1, -1, 3, -1, -1)").refused(-12, "shift(0, -1, 1, -1, -1)");
        run.refused(-12, "shift(1, -1, 2, -1, -1)").refused(-13, "shift(1, -1, 1, -1, -1)");
        run.refused(-1, "taken(_, 8)", 0, 1, 3).refused(-11, "taken(3, 5)").refused(-12, "taken(_, 5)", 0, 1);
    }

    @Holds(promise = Holds.TERMS, says = "BAD (-1): no such number, or it is not as said;")
    static void badIsMinus1() {
        if (ChairOld.BAD != -1) {
            Edges.fail("BAD is " + ChairOld.BAD);
        }
        new Run().refused(ChairOld.BAD, "likeliest(0)").refused(ChairOld.BAD, "paper(100, 0)");
    }

    @Holds(promise = Holds.TERMS, says = "NOT (-2): as told;")
    static void notIsMinus2() {
        if (ChairOld.NOT != -2) {
            Edges.fail("NOT is " + ChairOld.NOT);
        }
        new Run().refused(ChairOld.NOT, "house(0)").refused(ChairOld.NOT, "papers(0)");
    }

    @Holds(promise = Holds.TERMS, says = "FULL (-3);")
    static void fullIsMinus3() {
        if (ChairOld.FULL != -3) {
            Edges.fail("FULL is " + ChairOld.FULL);
        }
        Edges.withParts(0, 1, 2, 3, 4, 5, 6, 7).refused(ChairOld.FULL, "part(0)");
    }

    @Holds(promise = Holds.TERMS, says = "STATE (-5): as told;")
    static void stateIsMinus5() {
        if (ChairOld.STATE != -5) {
            Edges.fail("STATE is " + ChairOld.STATE);
        }
        new Run().refused(ChairOld.STATE, "back()").refused(ChairOld.STATE, "undo()").refused(ChairOld.STATE, "redo()");
    }

    @Holds(promise = Holds.TERMS, says = "-11 to -14.")
    static void theHostsRefusalsAreAnswersToo() {
        Run run = new Run().made("row(1, 0, 2)");
        run.refused(-11, "put(0, 0, 1)").refused(-12, "taken(1, 0)").refused(-13, "put(1, 2, 1)")
            .refused(-14, "row(1, 0, -1)");
    }

    @Holds(promise = Holds.TERMS, says = "VOID is -2000000000.")
    static void voidIsAConstant() {
        if (ChairOld.VOID != -2000000000) {
            Edges.fail("VOID is " + ChairOld.VOID);
        }
    }

    @Holds(promise = Holds.TERMS, says = "All memory is the class's own.")
    static void whatOneObjectKeepsNoOtherHas() {
        Run fresh = new Run();
        Run other = Edges.withAll();
        fresh.sameAs(new Run(), "another object's calls");
        Run between = Edges.withParts(12).law(0, "k=0?90-y;40").made("find(0, 1)");
        int percent = (int) between.twin().answer("percent(0)");
        other.made("find(0, 1)", "mend(1, 0, 9)").answer("percent(0)");
        between.due(percent, "percent(0)").due(90, "number(0, 0)");
    }
}
