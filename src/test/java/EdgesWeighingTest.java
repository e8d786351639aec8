/** 'Terms', part 2, and promises 10 to 15: what a part is by what was found. */
public final class EdgesWeighingTest {
    private static final int MIN = Edges.MIN;
    private static final int MAX = Edges.MAX;
    private static final long NO_LONG = Edges.NO_LONG;

    public static void main(String[] args) {
        Edges.run(EdgesWeighingTest.class);
    }

    /** Parts that are TRUE by 90 hundredths each. */
    private static Run ninetyOf100(int parts) {
        Run run = new Run().beliefs(9, 1);
        for (int i = 0; i < parts; i++) {
            run.made("part(0)");
        }
        return run;
    }

    /** Parts whose WHEN is as told, all of them likeliest TRUE. */
    private static Run partsOfTimes(int... times) {
        Run run = new Run().law(0, "y=w+p?100;1");
        for (int i = 0; i < times.length; i++) {
            int wood = Math.min(9, times[i]);
            run.due(i, "part(" + (10 * wood + times[i] - wood) + ")").due(0, "find(" + 10 * i + ", 1)");
        }
        return run;
    }

    @Holds(promise = Holds.TERMS, says = "WEIGHT of a KIND and TIME for a PART: BELIEF times, for each MARK that is FOUND there, its number, for each not there, 100 less it.")
    static void aWeightIsBeliefTimesWhatWasFound() {
        Run run = Edges.withParts(0, 0).beliefs(3, 2).law(0, "k=0?20;70").law(1, "k=0?60;90");
        run.due(3, "likely(0, 0)").due(5, "likely(0, 1)");
        // 3 * 20 * 40 and 2 * 70 * 10.
        run.made("find(0, 1)", "find(1, 2)").due(12, "likely(0, 0)").due(19, "likely(0, 1)").due(7, "likely(1, 0)");
        // 3 * 40 and 2 * 10: mark 0 is not looked for any more.
        run.made("find(0, 0)").due(6, "likely(0, 0)").due(7, "likely(0, 1)");
        run.due(3, "likely(10, 0)").due(5, "likely(10, 1)");
    }

    @Holds(promise = Holds.TERMS, says = "its number, for each not there, 100 less it.")
    static void numbers0And100LeaveNothingOrAll() {
        Run run = Edges.withParts(0).law(0, "k=0?0;100");
        run.made("find(0, 1)").due(0, "percent(0)").due(20, "percent(1)");
        run.made("find(0, 2)").due(100, "percent(0)").due(0, "percent(1)");
    }

    @Holds(promise = Holds.TERMS, says = "LIKELY: of a KIND: the sum of its WEIGHTS over all TIMES by that of all KINDS, in lowest terms (0 by 1, if all is 0).")
    static void likelyIsInLowestTerms() {
        Run run = Edges.withParts(0).law(0, "k=0?y;1");
        // 0 + 1 + .. + 29 = 435, and five times 30.
        run.made("find(0, 1)").due(29, "likely(0, 0)").due(39, "likely(0, 1)");
        run.due(2, "likely(5, 0)").due(39, "likely(5, 1)");
    }

    @Holds(promise = Holds.TERMS, says = "in lowest terms (0 by 1, if all is 0).")
    static void nothingIs0By1AndAllIs1By1() {
        Run run = Edges.withParts(0).beliefs(9);
        run.due(1, "likely(0, 0)").due(1, "likely(0, 1)").due(0, "likely(1, 0)").due(1, "likely(1, 1)");
        run.noBelief().due(0, "likely(0, 0)").due(1, "likely(0, 1)").due(0, "likely(5, 0)").due(1, "likely(5, 1)");
        Run found = Edges.withParts(0).law(0, "0").made("find(0, 1)");
        found.due(0, "likely(0, 0)").due(1, "likely(0, 1)");
    }

    @Holds(promise = Holds.TERMS, says = "the sum of its WEIGHTS over all TIMES by that of all KINDS,")
    static void theGreatestWeightsFit() {
        Run run = Edges.withParts(0).beliefs(9, 9, 9, 9, 9, 9);
        for (int mark = 0; mark < 6; mark++) {
            run.law(mark, "k=0?100;99").made("find(" + mark + ", 1)");
        }
        // 10^12 by 10^12 + 5 * 99^6, both by 5.
        run.due(200000000000L, "likely(0, 0)").due(1141480149401L, "likely(0, 1)").due(17, "percent(0)");
        run.due(16, "percent(1)").due(0, "likeliest(0)");
    }

    @Holds(promise = Holds.TERMS, says = "LIKELIEST: the KIND with the greatest such sum (of like ones the first);")
    static void ofLikeKindsTheFirst() {
        Run run = Edges.withParts(0).due(0, "likeliest(0)");
        run.made("mend(5, 0, 2)").due(5, "likeliest(0)").made("mend(4, 0, 2)").due(4, "likeliest(0)");
        run.made("mend(0, 0, 2)").due(0, "likeliest(0)").made("mend(5, 0, 3)").due(5, "likeliest(0)");
        // By their sums over all times, 129 and 300: one great weight is not enough.
        Run sums = Edges.withParts(0).law(0, "k=0&y=7?100;k=3?10;1").made("find(0, 1)").due(3, "likeliest(0)");
        sums.due(0, "when(3, 0)");
    }

    @Holds(promise = Holds.TERMS, says = "WHEN: of a KIND the TIME with its greatest WEIGHT (of like ones the first);")
    static void ofLikeTimesTheFirst() {
        Run run = Edges.withParts(0).due(0, "when(0, 0)").made("find(0, 1)");
        run.law(0, "y=5|y=9?80;y=28?79;3").due(5, "when(0, 0)").law(0, "y").due(29, "when(0, 0)");
        run.law(0, "29-y").due(0, "when(0, 0)").made("find(0, 2)").due(29, "when(0, 0)");
        run.law(0, "y<28").due(28, "when(0, 0)");
    }

    @Holds(promise = Holds.TERMS, says = "SPAN: its least, its greatest TIME with a WEIGHT above 0.")
    static void aWeightOf1IsAbove0() {
        Run run = Edges.withParts(0).due(0, "when(0, 1)").due(29, "when(0, 2)").made("find(0, 1)");
        run.law(0, "y>4&y<26").due(5, "when(0, 1)").due(25, "when(0, 2)");
        run.law(0, "y=4|y=20").due(4, "when(0, 1)").due(20, "when(0, 2)");
        run.law(0, "y=0").due(0, "when(0, 1)").due(0, "when(0, 2)");
        run.law(0, "y=29").due(29, "when(0, 1)").due(29, "when(0, 2)");
        run.made("find(0, 2)").law(0, "99").due(0, "when(0, 1)").due(29, "when(0, 2)");
        run.law(0, "y=0?99;100").due(0, "when(0, 1)").due(0, "when(0, 2)");
    }

    @Holds(promise = Holds.TERMS, says = "NOT: all is 0.")
    static void whereAllIs0NothingIsLikeliest() {
        Run run = Edges.withParts(0).law(0, "100").made("find(0, 2)");
        run.refused(-2, "likeliest(0)").refused(-2, "when(_, 0)", 0, 5).refused(-2, "when(_, 1)", 0, 5);
        run.refused(-2, "when(_, 2)", 0, 5);
        run.law(0, "k=5&y=29?99;100").due(5, "likeliest(0)").due(29, "when(5, 1)").due(-2, "when(4, 1)");
    }

    @Holds(promise = Holds.TERMS, says = "PERCENT of a KIND: hundredths (cut) of LIKELY.")
    static void percentIsCut() {
        Run run = Edges.withParts(0).due(16, "percent(0)").made("find(0, 1)");
        run.law(0, "k=0?y;1").due(74, "percent(0)").due(5, "percent(1)");
        run.law(0, "k=0?100;k=1?1;0").due(99, "percent(0)").due(0, "percent(1)");
        run.law(0, "k=0?99;k=1?1;0").due(99, "percent(0)").due(1, "percent(1)").due(0, "percent(2)");
        run.law(0, "k=0").due(100, "percent(0)").due(0, "percent(1)");
        run.law(0, "0").due(0, "percent(0)");
    }

    @Holds(promise = Holds.TERMS, says = "WHOLE: of all PARTS PERCENT of TRUE, multiplied one after the other, by 100 each time (cut), 100 at first.")
    static void wholeIsCutEachTime() {
        int[] whole = {100, 90, 81, 72, 64, 57, 51, 45, 40};
        for (int parts = 0; parts <= 8; parts++) {
            ninetyOf100(parts).due(whole[parts], "whole(0)");
        }
        Run run = new Run().due(100, "whole(0)");
        run.made("part(0)").due(16, "whole(0)").made("part(0)").due(2, "whole(0)").made("part(0)").due(0, "whole(0)");
        ninetyOf100(8).made("mend(1, 0, 0)").due(100, "whole(0)");
        ninetyOf100(8).made("mend(0, 0, 0)").due(0, "whole(0)");
    }

    @Holds(promise = Holds.TERMS, says = "TWO: in how many ten thousandths (cut at the end) at least two of all PARTS are not TRUE, by PERCENT as it is, independent:")
    static void twoIsCutAtTheEnd() {
        ninetyOf100(0).due(0, "whole(1)");
        ninetyOf100(1).due(0, "whole(1)").made("mend(0, 0, 0)").due(0, "whole(1)");
        ninetyOf100(2).due(100, "whole(1)").made("mend(0, 0, 0)").due(10000, "whole(1)");
        ninetyOf100(3).due(280, "whole(1)");
        ninetyOf100(4).due(523, "whole(1)");
        // 16 hundredths, not a sixth: 84 * 84.
        Edges.withParts(0, 0).due(7056, "whole(1)");
    }

    @Holds(promise = Holds.TERMS, says = "worked out in long numbers of 100 to the power of PARTS.")
    static void twoIsExactWithEightParts() {
        // 10^14 - 90^7 - 7 * 10 * 90^6 = 14969440000000; 10^16 - 90^8 - 8 * 10 * 90^7 = 1868952700000000.
        ninetyOf100(7).due(1496, "whole(1)");
        ninetyOf100(8).due(1868, "whole(1)");
        ninetyOf100(8).made("mend(0, 0, 0)").due(10000, "whole(1)");
        ninetyOf100(8).made("mend(1, 0, 0)").due(0, "whole(1)");
        Edges.withParts(0, 0, 0, 0, 0, 0, 0, 0).due(9999, "whole(1)");
    }

    @Holds(promise = Holds.TERMS, says = "ODD: of PARTS whose LIKELIEST KIND is TRUE those (bits) whose WHEN is not within 2 of the middle one of all theirs (in order, the lower of two middle ones).")
    static void within2IsInKeepingAnd3IsNot() {
        partsOfTimes(5, 7, 8, 2, 3).due(4 + 8, "odd()");
        partsOfTimes(5, 5, 8).due(4, "odd()");
        partsOfTimes(5, 5, 7).due(0, "odd()");
        partsOfTimes(5, 5, 2).due(4, "odd()");
        partsOfTimes(5, 5, 3).due(0, "odd()");
        partsOfTimes(0, 0, 0, 0, 0, 0, 0, 3).due(128, "odd()");
        partsOfTimes(18, 18, 18, 18, 18, 18, 18, 0).due(128, "odd()");
        // Time 0 is a time like any other.
        partsOfTimes(0, 3, 6).due(1 + 4, "odd()");
        partsOfTimes(3, 0, 1).due(0, "odd()");
    }

    @Holds(promise = Holds.TERMS, says = "(in order, the lower of two middle ones).")
    static void theLowerOfTwoMiddleOnes() {
        partsOfTimes(1, 4).due(2, "odd()");
        partsOfTimes(4, 1).due(1, "odd()");
        partsOfTimes(6, 1, 5, 2).due(1 + 4, "odd()");
        partsOfTimes(9, 8, 7, 6, 5, 4, 3, 2).due(1 + 2 + 128, "odd()");
    }

    @Holds(promise = Holds.TERMS, says = "ODD: of PARTS whose LIKELIEST KIND is TRUE")
    static void onlyPartsThatAreLikeliestTrueCount() {
        Run run = partsOfTimes(2, 5, 9).law(1, "k=0?1;99").due(1 + 4, "odd()");
        run.made("find(21, 1)").due(2, "odd()").made("find(11, 1)").due(0, "odd()").made("find(1, 1)").due(0, "odd()");
        Run four = partsOfTimes(2, 5, 8, 9).law(1, "k=0?1;99").due(1 + 4 + 8, "odd()");
        four.made("find(31, 1)").due(1 + 4, "odd()");
        partsOfTimes(2, 5, 9).noBelief().due(0, "odd()");
        new Run().due(0, "odd()");
        partsOfTimes(18).due(0, "odd()");
    }

    @Holds(promise = 10, says = "LIKELY (pk: 10 times the PART and the KIND): part 0 above, 1 below the line.")
    static void likelyOfTheFirstAndTheLast() {
        Run run = Edges.withParts(0, 0, 0, 0, 0, 0, 0, 0).law(5, "k=5?100;0").made("find(75, 1)");
        run.due(1, "likely(0, 0)").due(6, "likely(0, 1)").due(1, "likely(75, 0)").due(1, "likely(75, 1)");
        run.due(0, "likely(70, 0)").due(1, "likely(70, 1)").due(1, "likely(65, 0)").due(6, "likely(65, 1)");
    }

    @Holds(promise = 10, says = "Long.MIN_VALUE: BAD.")
    static void likelyRefusesWhatIsNoPartKindOrSide() {
        Run run = Edges.withAll();
        run.refused(NO_LONG, "likely(_, 0)", -1, -10, 6, 9, 16, 36, 40, 80, MIN, MAX);
        run.refused(NO_LONG, "likely(0, _)", -1, 2, MIN, MAX);
        new Run().refused(NO_LONG, "likely(_, 0)", 0, 5);
    }

    @Holds(promise = 11, says = "PERCENT.")
    static void percentOfTheFirstAndTheLast() {
        Run run = Edges.withParts(0, 0, 0, 0, 0, 0, 0, 0).law(5, "k=5?100;0").made("find(75, 1)");
        run.each(16, "percent(_)", 0, 5, 60, 65).due(0, "percent(70)").due(100, "percent(75)");
    }

    @Holds(promise = 11, says = "BAD.")
    static void percentRefusesWhatIsNoPartOrKind() {
        Edges.withAll().refused(-1, "percent(_)", -1, -10, 6, 9, 16, 36, 40, 80, MIN, MAX);
        new Run().refused(-1, "percent(_)", 0, 5);
    }

    @Holds(promise = 12, says = "LIKELIEST.")
    static void likeliestOfTheFirstAndTheLast() {
        Run run = Edges.withParts(0, 0, 0, 0, 0, 0, 0, 0).law(5, "k=5?100;0").made("find(75, 1)");
        run.due(0, "likeliest(0)").due(0, "likeliest(6)").due(5, "likeliest(7)");
    }

    @Holds(promise = 12, says = "BAD; NOT.")
    static void likeliestRefusesWhatIsNoPartAndHasNoneWhereAllIs0() {
        Run run = Edges.withAll().refused(-1, "likeliest(_)", -1, 4, 8, MIN, MAX);
        run.noBelief().refused(-2, "likeliest(_)", 0, 3).refused(-1, "likeliest(_)", -1, 4);
        new Run().refused(-1, "likeliest(0)");
    }

    @Holds(promise = 13, says = "WHEN (what 0), SPAN: from (1), to (2).")
    static void whenOfTheFirstAndTheLast() {
        Run run = Edges.withParts(0, 0, 0, 0, 0, 0, 0, 0).law(5, "k=5&y>20&y<29?100-(y-25)*(y-25)");
        run.made("find(75, 1)").due(25, "when(75, 0)").due(21, "when(75, 1)").due(28, "when(75, 2)");
        run.due(0, "when(0, 0)").due(0, "when(65, 1)").due(29, "when(65, 2)");
    }

    @Holds(promise = 13, says = "BAD; NOT (all of that KIND is 0).")
    static void whenRefusesAndHasNoneWhereAllOfTheKindIs0() {
        Run run = Edges.withAll().refused(-1, "when(_, 0)", -1, -10, 6, 9, 16, 36, 40, 80, MIN, MAX);
        run.refused(-1, "when(0, _)", -1, 3, MIN, MAX).made("mend(4, 0, 0)");
        run.refused(-2, "when(4, _)", 0, 1, 2).refused(-1, "when(4, _)", -1, 3).due(0, "when(5, 1)");
        Run found = Edges.withParts(0).law(0, "k=1?0;9").made("find(0, 1)");
        found.refused(-2, "when(1, _)", 0, 1, 2).due(0, "when(2, 0)");
    }

    @Holds(promise = 14, says = "WHOLE (what 0), TWO (1).")
    static void wholeAndTwo() {
        ninetyOf100(2).due(81, "whole(0)").due(100, "whole(1)");
    }

    @Holds(promise = 14, says = "BAD.")
    static void wholeRefusesAnyOther() {
        Edges.withAll().refused(-1, "whole(_)", -1, 2, MIN, MAX);
        new Run().refused(-1, "whole(_)", -1, 2);
    }

    @Holds(promise = 15, says = "ODD, as bits.")
    static void oddBitsOfTheFirstAndTheLast() {
        partsOfTimes(9, 5, 5, 5, 5, 5, 5, 0).due(1 + 128, "odd()");
        partsOfTimes(5, 5, 5, 9, 5, 5, 5, 5).due(8, "odd()");
    }
}
