/** 'Terms', part 3, and promises 16 to 22: what to look for, what to make, what it is worth. */
public final class EdgesLookingTest {
    private static final int MIN = Edges.MIN;
    private static final int MAX = Edges.MAX;

    public static void main(String[] args) {
        Edges.run(EdgesLookingTest.class);
    }

    /** Marks 0 to 4 each tell one kind for certain. */
    private static Run fiveTellers() {
        Run run = Edges.withParts(0);
        for (int mark = 0; mark < 5; mark++) {
            run.law(mark, "k=" + mark + "?100;0");
        }
        return run;
    }

    /** BELIEVED without mark 2: 1 with neither of marks 0 and 1, 18 with one, 78 with both. */
    private static Run twoToMake() {
        return Edges.withParts(0).law(0, "k=0?80;20").law(1, "k=0?80;20").law(2, "k=0?10;20");
    }

    /** Only a part with all six marks is believed. */
    private static Run sixToMake() {
        Run run = Edges.withParts(0);
        for (int mark = 0; mark < 6; mark++) {
            run.law(mark, "k=0?100;0");
        }
        return run;
    }

    @Holds(promise = Holds.TERMS, says = "NEXT for a PART: of MARKS not looked for that which, there or not, leaves the greater of both sums of WEIGHTS (with its number, with 100 less it) least, that times its MINUTES (of like ones the first): which; NOT: none.")
    static void theGreaterOfBothSumsIsLeast() {
        Run run = Edges.withParts(0).law(0, "30").law(1, "60").law(2, "65").law(3, "100").law(4, "0").law(5, "61");
        // 70, 60, 65, 100, 100, 61 hundredths.
        run.due(1, "next(0)").made("find(1, 1)").due(5, "next(0)").made("find(5, 2)").due(2, "next(0)");
        run.made("find(2, 1)").due(0, "next(0)").made("find(0, 1)").due(3, "next(0)").made("find(3, 1)")
            .due(4, "next(0)");
        // One kind of six has mark 0: the greater sum is that without it, 83 hundredths, mark 1 leaves 82.
        Run kinds = Edges.withParts(0).law(0, "k=0?100;0").law(1, "82").law(2, "84").law(3, "84").law(4, "84")
            .law(5, "84");
        kinds.due(1, "next(0)").made("find(1, 1)").due(0, "next(0)");
    }

    @Holds(promise = Holds.TERMS, says = "that times its MINUTES (of like ones the first):")
    static void timesItsMinutesAndOfLikeOnesTheFirst() {
        Run run = Edges.withParts(0).due(0, "next(0)").made("mend(0, 2, 2)").due(1, "next(0)");
        // 50 in 2 minutes, 100 in 1 minute each.
        run.law(1, "100").law(2, "100").law(3, "100").law(4, "100").law(5, "100").due(0, "next(0)");
        run.law(4, "99").due(4, "next(0)").made("mend(0, 2, 1)").due(0, "next(0)").made("mend(0, 2, 9)")
            .due(4, "next(0)");
        run.law(4, "100").due(1, "next(0)");
        // Where nothing is left all marks are like.
        run.noBelief().due(0, "next(0)").made("find(0, 1)").due(1, "next(0)");
    }

    @Holds(promise = Holds.TERMS, says = "which; NOT: none.")
    static void theLastMarkAndThenNone() {
        Run run = Edges.withParts(0, 0);
        for (int mark = 0; mark < 6; mark++) {
            run.due(mark, "next(0)").made("find(" + mark + ", " + (1 + mark % 2) + ")");
        }
        run.refused(-2, "next(0)").due(0, "next(1)").made("find(5, 0)").due(5, "next(0)");
    }

    @Holds(promise = Holds.TERMS, says = "NAMED: for a set of MARKS (bits; those looked for already do not matter): how well one names the KIND, if it is looked for all of it:")
    static void marksLookedForAlreadyDoNotMatter() {
        Run run = fiveTellers().due(166, "named(0, 0)").due(333, "named(0, 1)").due(1000, "named(0, 31)");
        run.due(1000, "named(0, 63)").due(166, "named(0, 32)");
        // TRUE is out: one of five.
        run.made("find(0, 2)").each(200, "named(0, _)", 0, 1, 32, 33).each(400, "named(0, _)", 2, 3, 34, 35);
        run.each(1000, "named(0, _)", 30, 31, 62, 63).made("find(5, 1)").each(1000, "named(0, _)", 30, 63);
    }

    @Holds(promise = Holds.TERMS, says = "the sum, over all ways in which these may be there or not, of the greatest sum of WEIGHTS (with those of the way) of a KIND, by that of all WEIGHTS times 100 to their number, in thousandths (cut).")
    static void namedIsCutAndItsNumbersFit() {
        Run run = Edges.withParts(0).beliefs(1, 1, 1, 1, 1, 9).law(0, "k=0?100;0");
        // 9 of 14; with mark 0 one more.
        run.due(642, "named(0, 0)").due(714, "named(0, 1)");
        Run great = Edges.withParts(0).beliefs(9, 9, 9, 9, 9, 9);
        for (int mark = 0; mark < 6; mark++) {
            great.law(mark, "k=0?100;0");
        }
        great.due(333, "named(0, 63)").law(5, "100").due(333, "named(0, 63)").beliefs(9).due(1000, "named(0, 63)");
        // The first time counts like the last: 100 and 3,000 of 18,000.
        Run times = Edges.withParts(0).law(1, "k=0&y=0?100;0").law(2, "k=0&y=29?100;0").made("mend(0, 1, 9)");
        times.due(172, "named(0, 2)").due(172, "named(0, 4)").due(177, "named(0, 6)");
        // Per time 60 + 40 + 5 * (40 + 60): there TRUE 60, not there another 60.
        Edges.withParts(0).law(3, "k=0?60;40").due(200, "named(0, 8)").due(200, "named(0, 63)");
    }

    @Holds(promise = Holds.TERMS, says = "PLAN: of all sets of MARKS not looked for whose MINUTES together are no more than m that with the greatest NAMED (of like ones the least MINUTES, then the least bits).")
    static void exactlySoManyMinutesAreNotTooMany() {
        Run run = fiveTellers()
            .made("mend(0, 2, 9)", "mend(1, 2, 8)", "mend(2, 2, 7)", "mend(3, 2, 9)", "mend(4, 2, 9)");
        run.made("mend(5, 2, 9)");
        run.due(0, "plan(0, 6)").due(4, "plan(0, 7)").due(4, "plan(0, 14)").due(6, "plan(0, 15)").due(6, "plan(0, 23)");
        run.due(7, "plan(0, 24)").due(15, "plan(0, 33)").due(15, "plan(0, 41)").due(31, "plan(0, 42)")
            .due(31, "plan(0, 54)");
        // Only marks not looked for: TRUE is out, three of the others are told, too.
        run.made("find(0, 2)").due(30, "plan(0, 54)").due(14, "plan(0, 24)").due(0, "plan(0, 6)");
        run.made("find(1, 1)").due(0, "plan(0, 54)");
    }

    @Holds(promise = Holds.TERMS, says = "(of like ones the least MINUTES, then the least bits).")
    static void ofLikePlansTheShortestThenTheLeastBits() {
        Run run = Edges.withParts(0).law(0, "k=0?100;0").law(2, "k=0?100;0").law(5, "k=0?100;0");
        run.due(1, "plan(0, 1)").due(1, "plan(0, 54)").made("mend(0, 2, 2)").due(4, "plan(0, 54)");
        run.made("mend(2, 2, 3)").due(32, "plan(0, 54)").made("mend(5, 2, 3)").due(1, "plan(0, 2)")
            .due(0, "plan(0, 1)");
        // Marks that tell nothing are not looked for.
        Edges.withParts(0).due(0, "plan(0, 54)");
    }

    @Holds(promise = Holds.TERMS, says = "MAKER: he makes a set of MARKS (bits) on a PART, all others are not there: BELIEVED: PERCENT of TRUE, if all six were looked for and FOUND so (what is FOUND does not matter).")
    static void whatIsFoundDoesNotMatterForBelief() {
        Run run = twoToMake().due(1, "believed(0, 0)").due(18, "believed(0, 1)").due(18, "believed(0, 2)");
        run.due(78, "believed(0, 3)").due(61, "believed(0, 7)").due(78, "believed(0, 59)");
        run.made("find(0, 2)", "find(1, 2)", "find(5, 1)").due(78, "believed(0, 3)").due(1, "believed(0, 0)");
        sixToMake().due(100, "believed(0, 63)").due(0, "believed(0, 62)").due(0, "believed(0, 31)");
        twoToMake().noBelief().due(0, "believed(0, 3)").due(0, "believed(0, 0)");
    }

    @Holds(promise = Holds.TERMS, says = "CHEAPEST: of all sets by which BELIEVED is b or more that with least COST (of like ones the least bits): bits; COST; NOT.")
    static void exactlySoMuchBeliefIsEnough() {
        Run run = twoToMake().due(0, "cheapest(0, 0, 0)").due(0, "cheapest(0, 1, 0)").due(1, "cheapest(0, 2, 0)");
        run.due(1, "cheapest(0, 18, 0)").due(10, "cheapest(0, 18, 1)").due(3, "cheapest(0, 19, 0)");
        run.due(3, "cheapest(0, 78, 0)").due(20, "cheapest(0, 78, 1)");
        run.refused(-2, "cheapest(0, 79, _)", 0, 1).refused(-2, "cheapest(0, 100, _)", 0, 1);
        run.made("find(0, 2)", "find(1, 2)").due(3, "cheapest(0, 78, 0)");
        sixToMake().due(63, "cheapest(0, 100, 0)").due(60, "cheapest(0, 1, 1)");
        twoToMake().noBelief().due(0, "cheapest(0, 0, 0)").due(-2, "cheapest(0, 1, 0)");
    }

    @Holds(promise = Holds.TERMS, says = "CHEAPEST: of all sets by which BELIEVED is b or more")
    static void notQuiteSoMuchBeliefIsNotEnough() {
        // At time 0, with mark 0, TRUE and ELSEWHERE 100 and MENDED 1 of 201, however small the other marks make it.
        Run run = Edges.withParts(0).law(0, "y?0;k<2?100;k=2");
        for (int mark = 1; mark < 6; mark++) {
            run.law(mark, "y=0");
        }
        run.due(49, "believed(0, 63)").due(49, "believed(0, 1)").due(1, "cheapest(0, 49, 0)");
        run.refused(-2, "cheapest(0, 50, _)", 0, 1);
    }

    @Holds(promise = Holds.TERMS, says = "least COST (of like ones the least bits): bits; COST; NOT.")
    static void ofLikeCostsTheLeastBits() {
        Run run = twoToMake().due(1, "cheapest(0, 18, 0)").made("mend(0, 3, 11)").due(2, "cheapest(0, 18, 0)");
        run.due(10, "cheapest(0, 18, 1)").due(21, "cheapest(0, 78, 1)");
        // Marks that cost nothing are not made for nothing.
        run.made("mend(0, 3, 0)", "mend(1, 3, 0)", "mend(3, 3, 0)", "mend(5, 3, 0)");
        run.due(0, "cheapest(0, 0, 0)").due(1, "cheapest(0, 18, 0)").due(3, "cheapest(0, 78, 0)")
            .due(0, "cheapest(0, 78, 1)");
        Run dear = sixToMake();
        for (int mark = 0; mark < 6; mark++) {
            dear.made("mend(" + mark + ", 3, 99)");
        }
        dear.due(594, "cheapest(0, 100, 1)").due(63, "cheapest(0, 100, 0)");
    }

    @Holds(promise = Holds.TERMS, says = "SPOILS: of the MARKS of a set that without which BELIEVED is least (of like ones the first); NOT: no MARKS.")
    static void withoutWhichBeliefIsLeast() {
        Run run = Edges.withParts(0).law(0, "k=0?60;50").law(3, "k=0?90;10").law(4, "k=0?10;90");
        run.due(3, "spoils(0, 9)").due(0, "spoils(0, 17)").due(3, "spoils(0, 63)").due(0, "spoils(0, 23)");
        run.made("find(3, 2)").due(3, "spoils(0, 9)");
        // One mark alone, and like ones.
        run.due(4, "spoils(0, 16)").due(5, "spoils(0, 32)").due(1, "spoils(0, 38)").due(2, "spoils(0, 36)");
        sixToMake().due(0, "spoils(0, 63)").due(5, "spoils(0, 32)");
        run.refused(-2, "spoils(0, 0)").noBelief().due(0, "spoils(0, 63)").due(-2, "spoils(0, 0)");
    }

    @Holds(promise = Holds.TERMS, says = "PRICE of a PART: the sum over KINDS of VALUE times PERCENT, by 100 (cut);")
    static void thePriceIsCut() {
        Run run = Edges.withParts(0).due(0, "price(0)").made("mend(0, 1, 6)").due(0, "price(0)");
        // 16 * 7 = 112; 16 * 7 + 16 * 5 = 192; 16 * 13 = 208.
        run.made("mend(0, 1, 7)").due(1, "price(0)").made("mend(5, 1, 5)").due(1, "price(0)").made("mend(5, 1, 6)")
            .due(2, "price(0)");
        for (int kind = 0; kind < 6; kind++) {
            run.made("mend(" + kind + ", 1, 99)");
        }
        // 1 * 99 and 1 * 99 + 99 * 1: 99 hundredths are cut.
        Run cut = Edges.withParts(0).law(0, "k=0?1;k=1?99;0").made("find(0, 1)", "mend(0, 1, 99)").due(0, "price(0)");
        cut.made("mend(1, 1, 1)").due(1, "price(0)").made("mend(0, 1, 1)").due(1, "price(0)");
        cut.made("mend(0, 1, 0)").due(0, "price(0)");
        run.due(95, "price(0)").beliefs(9).due(99, "price(0)").noBelief().due(0, "price(0)");
    }

    @Holds(promise = Holds.TERMS, says = "of all PARTS together.")
    static void thePricesOfAllPartsTogether() {
        Run run = new Run().made("mend(0, 1, 10)").due(0, "price(-1)");
        for (int parts = 1; parts <= 8; parts++) {
            run.made("part(0)").due(parts, "price(-1)");
        }
        run.beliefs(1).made("mend(0, 1, 99)").due(792, "price(-1)");
    }

    @Holds(promise = 16, says = "NEXT.")
    static void nextOfTheFirstAndTheLast() {
        Run run = Edges.withParts(0, 0, 0, 0, 0, 0, 0, 0).made("find(0, 1)", "find(70, 1)", "find(71, 2)");
        run.due(1, "next(0)").due(0, "next(6)").due(2, "next(7)");
    }

    @Holds(promise = 16, says = "BAD; NOT.")
    static void nextRefusesWhatIsNoPart() {
        Run run = Edges.withAll().refused(-1, "next(_)", -1, 4, 8, MIN, MAX);
        run.made("find(0, 1)", "find(1, 1)", "find(2, 1)", "find(3, 1)", "find(4, 1)").due(5, "next(0)");
        run.made("find(5, 2)").refused(-2, "next(0)");
        new Run().refused(-1, "next(0)");
    }

    @Holds(promise = 17, says = "NAMED by MARKS (bits 0 .. 63).")
    static void namedTakes0To63() {
        Run run = Edges.withAll();
        run.made("named(0, 0)", "named(0, 63)", "named(3, 0)", "named(3, 63)");
        run.refused(-1, "named(0, _)", -1, 64, MIN, MAX);
    }

    @Holds(promise = 17, says = "BAD; NOT: all WEIGHTS are 0.")
    static void namedRefusesWhatIsNoPartAndIsNotWhereAllIs0() {
        Run run = Edges.withAll().refused(-1, "named(_, 0)", -1, 4, 8, MIN, MAX);
        run.noBelief().refused(-2, "named(_, 0)", 0, 3).refused(-2, "named(0, 63)").refused(-1, "named(0, 64)");
        Run found = Edges.withParts(0).law(0, "100").made("find(0, 2)").refused(-2, "named(0, _)", 0, 1, 62, 63);
        found.law(0, "k=0?99;100").due(1000, "named(0, 0)");
        new Run().refused(-1, "named(0, 0)");
    }

    @Holds(promise = 18, says = "PLAN in m MINUTES (0 .. 54), as bits.")
    static void planTakes0To54() {
        Run run = Edges.withAll().due(0, "plan(0, 0)").made("plan(0, 54)", "plan(3, 0)", "plan(3, 54)");
        run.refused(-1, "plan(0, _)", -1, 55, MIN, MAX);
        // 1 - 0.4^6 and 1 of 6, or 1 - 0.4^5 and 1: 332 or 331 thousandths.
        Run all = Edges.withParts(0);
        for (int mark = 0; mark < 6; mark++) {
            all.law(mark, "k=0?60;0").made("mend(" + mark + ", 2, 9)");
        }
        all.due(63, "plan(0, 54)").due(31, "plan(0, 53)").due(332, "named(0, 63)").due(331, "named(0, 31)");
    }

    @Holds(promise = 18, says = "BAD; NOT: all WEIGHTS are 0.")
    static void planRefusesWhatIsNoPartAndIsNotWhereAllIs0() {
        Run run = Edges.withAll().refused(-1, "plan(_, 0)", -1, 4, 8, MIN, MAX);
        run.noBelief().refused(-2, "plan(_, 0)", 0, 3).refused(-2, "plan(0, 54)").refused(-1, "plan(0, 55)");
        Run found = Edges.withParts(0).law(0, "100").made("find(0, 2)").refused(-2, "plan(0, _)", 0, 54);
        found.law(0, "99").due(0, "plan(0, 54)");
        new Run().refused(-1, "plan(0, 0)");
    }

    @Holds(promise = 19, says = "BELIEVED, with MARKS (bits) that are made.")
    static void believedTakes0To63() {
        twoToMake().due(1, "believed(0, 0)").due(61, "believed(0, 63)");
        Edges.withAll().made("believed(0, 0)", "believed(3, 63)").refused(-1, "believed(0, _)", -1, 64, MIN, MAX);
    }

    @Holds(promise = 19, says = "BAD.")
    static void believedRefusesWhatIsNoPart() {
        Edges.withAll().refused(-1, "believed(_, 0)", -1, 4, 8, MIN, MAX);
        new Run().refused(-1, "believed(0, 0)");
    }

    @Holds(promise = 20, says = "CHEAPEST: bits (what 0), COST (1).")
    static void cheapestBitsAndCost() {
        twoToMake().due(3, "cheapest(0, 50, 0)").due(20, "cheapest(0, 50, 1)");
        Edges.withAll().made("cheapest(0, 0, 0)", "cheapest(3, 0, 1)")
            .refused(-1, "cheapest(0, 0, _)", -1, 2, MIN, MAX);
    }

    @Holds(promise = 20, says = "BAD (b 0 .. 100); NOT.")
    static void cheapestTakesBeliefsFrom0To100() {
        Run run = Edges.withAll().refused(-1, "cheapest(0, _, 0)", -1, 101, MIN, MAX);
        run.due(0, "cheapest(0, 0, 0)").refused(-2, "cheapest(0, 100, _)", 0, 1);
        run.refused(-1, "cheapest(_, 0, 0)", -1, 4, 8, MIN, MAX);
        sixToMake().due(63, "cheapest(0, 100, 0)").refused(-1, "cheapest(0, 101, 0)");
        new Run().refused(-1, "cheapest(0, 0, 0)");
    }

    @Holds(promise = 21, says = "SPOILS.")
    static void spoilsTakes0To63() {
        Run run = Edges.withAll().made("spoils(0, 1)", "spoils(3, 63)").refused(-1, "spoils(0, _)", -1, 64, MIN, MAX);
        run.due(0, "spoils(0, 1)").due(5, "spoils(0, 32)");
    }

    @Holds(promise = 21, says = "BAD; NOT.")
    static void spoilsRefusesWhatIsNoPartAndHasNoneOfNoMarks() {
        Run run = Edges.withAll().refused(-1, "spoils(_, 1)", -1, 4, 8, MIN, MAX);
        run.refused(-2, "spoils(_, 0)", 0, 3).refused(-1, "spoils(_, 0)", -1, 4);
        new Run().refused(-1, "spoils(0, 1)");
    }

    @Holds(promise = 22, says = "PRICE of a PART; of all (part -1).")
    static void priceOfOnePartAndOfAll() {
        Run run = Edges.withParts(0, 0, 0, 0, 0, 0, 0, 0).law(0, "k=0").made("find(70, 1)", "mend(0, 1, 50)");
        run.due(8, "price(0)").due(50, "price(7)").due(106, "price(-1)");
    }

    @Holds(promise = 22, says = "BAD.")
    static void priceRefusesWhatIsNoPart() {
        Edges.withAll().refused(-1, "price(_)", -2, 4, 8, MIN, MAX);
        new Run().due(0, "price(-1)").refused(-1, "price(_)", 0, -2);
    }
}
