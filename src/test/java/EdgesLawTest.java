/** 'Terms', part 1: THE LAW, sentence by sentence; what a text gives is asked for time 12, kind 3, wood 4, place 7. */
public final class EdgesLawTest {
    /** 119 bytes that give 60. */
    private static final String SIXTY_ONES = "1" + "+1".repeat(59);

    public static void main(String[] args) {
        Edges.run(EdgesLawTest.class);
    }

    private static void gives(int want, String... texts) {
        for (String text : texts) {
            Run run = Edges.withParts(47).law(2, text).due(0, "count(3)");
            long got = run.answer("number(2, 312)");
            if (got != want) {
                Edges.fail(text + " gives " + got + ", due is " + want);
            }
        }
    }

    private static void faultAt(int place, String... texts) {
        for (String text : texts) {
            Run run = Edges.withParts(47).fed(text);
            long got = run.answer("law(2)");
            if (got != -100 - place) {
                Edges.fail(text + " is answered by " + got + ", its fault is at " + place);
            }
            run.due(50, "number(2, 312)").due(0, "count(3)");
        }
    }

    @Holds(promise = Holds.TERMS, says = "THE LAW of a MARK is a TEXT by THE TAPE (at most 120 bytes):")
    static void aTextOf120BytesIsTakenAndTheByte121IsNot() {
        gives(60, SIXTY_ONES);
        gives(69, SIXTY_ONES + "0");
        gives(58, "-" + SIXTY_ONES);
        faultAt(119, SIXTY_ONES + ")");
        faultAt(120, SIXTY_ONES + "+");
        Run full = Edges.withParts(0).fed(SIXTY_ONES + "0").refused(-3, "feed(_)", '0', ')');
        full.due(1, "law(2)").due(69, "number(2, 0)").due(1, "feed(48)");
    }

    @Holds(promise = Holds.TERMS, says = "LINES, one or more, parted by ; .")
    static void oneLineIsEnoughAndNoneIsNot() {
        gives(12, "y", "0?1;y", "y;1");
        gives(9, "0?1;".repeat(29) + "7?9");
        gives(1, "1;".repeat(59) + "1");
        faultAt(0, "", ";", ";y");
        faultAt(2, "y;", "y;;y", "y;?");
        faultAt(118, "1;".repeat(59));
    }

    @Holds(promise = Holds.TERMS, says = "LINE: E, or E ? E (what counts if the first is not 0).")
    static void aLineHasOneQuestionAtMost() {
        gives(5, "5", "1?5", "-1?5", "9999?5", "0|1?5", "y=12?5");
        gives(0, "0?5", "1?0");
        gives(1, "1?5|0", "1?5&5");
        faultAt(0, "?", "?5");
        faultAt(2, "1?", "1?;5");
        faultAt(3, "1?5?6", "1?5?");
        faultAt(2, "(1?5)", "1??5");
        faultAt(4, "!1?5?6");
    }

    @Holds(promise = Holds.TERMS, says = "E = A { | A }.")
    static void anyNumberOfOrs() {
        gives(1, "0|5", "5|0", "0|0|5", "0|".repeat(59) + "1", "1|1&0", "0&1|1");
        gives(0, "0|0", "0|".repeat(59) + "0", "(1|1)&0");
        faultAt(0, "|", "|1");
        faultAt(2, "1|", "1||1", "1|)");
    }

    @Holds(promise = Holds.TERMS, says = "A = B { & B }.")
    static void anyNumberOfAnds() {
        gives(1, "5&5", "1&1&1", "1&".repeat(59) + "1", "4&4=4", "1<2&2<3");
        gives(0, "5&0", "0&5", "1&".repeat(59) + "0", "1&0&1");
        faultAt(0, "&", "&1");
        faultAt(2, "1&", "1&&1", "1&|1");
    }

    @Holds(promise = Holds.TERMS, says = "B = S, or S < S, S = S, S > S.")
    static void oneComparingOnlyInEachB() {
        gives(1, "1<2", "2=2", "2>1", "1+1<1+2", "1+1=4/2", "5>2*2", "1<2&2<3", "(1<2)<3", "(3>2)=1");
        gives(0, "2<2", "1=2", "2>2", "2<1", "1>2", "1<(0<1)");
        faultAt(3, "1<2<3", "1=1=1", "3>2>1", "1<2=1", "3>2<1");
        faultAt(2, "1<", "1=", "1>", "1<=2", "1>=2", "1==1", "1<>2");
        faultAt(0, "<1", "=1", ">1");
        faultAt(7, "1<2&1<2<3", "1<2|1=1=1");
    }

    @Holds(promise = Holds.TERMS, says = "S = P { + P, - P }.")
    static void anyNumberOfPlusAndMinusFromTheLeft() {
        gives(12, "20-5-3", "y", "20-(5+3)", "15-5+2", "2*5+2", "0-0+12");
        gives(2, "1--1", "1+1");
        gives(60, SIXTY_ONES);
        gives(41, "99" + "-1".repeat(58));
        faultAt(0, "+1", "+");
        faultAt(2, "1+", "1-", "1++1", "1+*1", "1-+1");
    }

    @Holds(promise = Holds.TERMS, says = "P = O { * O, / O, % O }.")
    static void anyNumberOfTimesAndDividedFromTheLeft() {
        gives(6, "90/7/2", "2*3", "90/(7*2)", "6%7", "96%10");
        gives(21, "17%10*3", "7*3");
        gives(14, "2+3*4", "20-18/3", "20-16%10");
        gives(4, "2*9/4", "4" + "*1".repeat(58));
        faultAt(0, "*1", "/1", "%1");
        faultAt(2, "1*", "1/", "1%", "1**1", "1*/1");
        gives(0, "5*-1+5");
    }

    @Holds(promise = Holds.TERMS, says = "O = a number (1 to 4 digits), a NAME, ! O, - O, ( E ).")
    static void aNumberHasFourDigitsAtMost() {
        gives(7, "7", "07", "007", "0007");
        gives(42, "42", "0042");
        gives(100, "9999");
        gives(99, "1098-0999");
        faultAt(4, "12345", "00000", "99999", "0000y");
        faultAt(6, "1+12345", "1;12345", "1?12345");
    }

    @Holds(promise = Holds.TERMS, says = "a NAME, ! O, - O, ( E ).")
    static void whatElseAnOIs() {
        gives(1, "!0", "!!y", "!y=0", "(y|0)", "(1<2)", "-y<0");
        gives(8, "20-y", "-y+20", "(20-y)", "-(y-20)", "--8", "-(-(8))");
        gives(7, "!0*7", "-!0*7+14");
        faultAt(1, "yk", "y1", "1y", "y(", "1(", "y!", "()", "(", "!", "-", "!)", "y)");
        faultAt(2, "(y", "(y?1)", "(y;1)", "(y(", "!!", "--");
        faultAt(3, "(y))", "(y)1", "(y)k", "(1+");
    }

    @Holds(promise = Holds.TERMS, says = "No blanks.")
    static void aBlankIsAFaultWhereverItStands() {
        faultAt(0, " ", " y", "\ty", "\n");
        faultAt(1, "y ", "y +1", "1 2", "( y)", "! y", "y\n", "y\r");
        faultAt(2, "y+ 1", "1? 5", "1; 5", "(y )");
    }

    @Holds(promise = Holds.TERMS, says = "NAMES: y the TIME, k the KIND, w WOOD, p PLACE.")
    static void fourNamesAndNoOther() {
        gives(12, "y");
        gives(3, "k");
        gives(4, "w");
        gives(7, "p");
        faultAt(0, "Y", "K", "W", "P", "x", "z", "j", "l", "v", "o", "q", "a");
        Run run = Edges.withParts(0, 99).law(0, "y").law(1, "k").law(2, "w").law(3, "p");
        run.due(0, "number(0, 0)").due(29, "number(10, 529)").due(0, "number(1, 0)").due(5, "number(11, 529)");
        run.due(0, "number(2, 0)").due(9, "number(12, 529)").due(0, "number(3, 0)").due(9, "number(13, 529)");
    }

    @Holds(promise = Holds.TERMS, says = "At most 6 of ( ! - ahead of an O are open at once.")
    static void sixAreOpenAndTheSeventhIsAFault() {
        gives(12, "((((((y))))))", "------y", "-(-(--y))", "--(--(y))");
        gives(1, "!!!!!!y", "!(!(!!y))", "!-(!-(y))");
        faultAt(6, "(((((((y)))))))", "-------y", "!!!!!!!y", "(((((((", "!!!---(y)", "(-(-(-(y", "((((((-y",
            "((((((!y");
    }

    @Holds(promise = Holds.TERMS, says = "ahead of an O are open at once.")
    static void whatIsClosedIsNotOpen() {
        gives(24, "((((((y))))))+((((((y))))))", "------y+------y", "-(-y)+((((((y))))))");
        gives(7, "!0+!0+!0+!0+!0+!0+!0", "(1)+(1)+(1)+(1)+(1)+(1)+(1)");
        gives(11, "((((((y-1))))))", "------y-1");
        gives(13, "------y--1", "((((((y))))))--1");
        gives(12, "((((((0))))))?1;((((((1))))))?((((((y))))))");
        faultAt(8, "((((((y+-1))))))", "((((((y+!1))))))", "((((((y+(1)))))))");
        faultAt(8, "1?(((((((1", "1;(((((((1", "1+-------1");
    }

    @Holds(promise = Holds.TERMS, says = "Ints that wrap;")
    static void aboveTheGreatestIntComesTheLeast() {
        // 2048 * 1024 * 1024 is 2 to the power of 31.
        gives(1, "2048*1024*1024<0", "2048*1024*1024-1>0", "-(2048*1024*1024)<0", "!(4096*1024*1024)");
        gives(1, "2047*1024*1024>0", "0-2048*1024*1024<0", "9999*9999*22<0");
        // 9999 * 9999 * 43 wraps to 4172747.
        gives(17, "9999*9999*43/9999-400");
    }

    @Holds(promise = Holds.TERMS, says = "/ and % toward 0,")
    static void belowZeroTheyCutTowardZero() {
        gives(47, "(0-7)/2+50", "-7/2+50", "7/-2+50");
        gives(53, "-7/-2+50");
        gives(49, "(0-7)%2+50", "-7%2+50", "-7%-2+50");
        gives(51, "7%-2+50", "7%2+50");
        gives(1, "2048*1024*1024/-1<0");
        gives(6, "2048*1024*1024%-1+6");
    }

    @Holds(promise = Holds.TERMS, says = "by 0 they give 0;")
    static void dividedBy0IsZero() {
        gives(50, "7/0+50", "7%0+50", "0/0+50", "0%0+50", "-7/0+50", "7/(y-12)+50", "7%(k-3)+50", "50+9/0*9");
        gives(0, "7/0", "7%0");
    }

    @Holds(promise = Holds.TERMS, says = "| & < = > ! give 1, 0;")
    static void theyGiveOneOrZeroAndNoOther() {
        gives(1, "5|0", "0|5", "5|5", "-1|0", "5&7", "-1&-1", "3<4", "-1<0", "4=4", "5>4", "!0", "!(1-1)");
        gives(0, "0|0", "5&0", "0&5", "0&0", "4<4", "5<4", "4=5", "4>4", "4>5", "!7", "!-1", "!1");
        gives(2, "(5|5)+(5&5)", "(3<4)+(4>3)", "!0+(7=7)");
    }

    @Holds(promise = Holds.TERMS, says = "all is worked out.")
    static void nothingIsSkippedAndNothingFails() {
        gives(1, "1|7/0", "7/0|1", "1|9999*9999*9999");
        gives(0, "0&7%0", "7%0&0", "0&9999*9999*9999");
        gives(9, "0?7/0;9", "1?9;7/0");
    }

    @Holds(promise = Holds.TERMS, says = "The first LINE without a first E, or whose first E is not 0, counts; none: 0.")
    static void theFirstLineThatCounts() {
        gives(5, "5;6", "1?5;6", "0?4;5;6", "0?4;1?5;6", "0?4;0?4;5", "-1?5;6", "0?4;-1?5;1?6");
        gives(0, "0?5", "0?5;0?6", "0?5;0?6;0?7", "0;6", "1?0;6", "0?5;0;6");
        gives(6, "k=2?4;k=4?5;k=3?6", "k=2?4;6;k=3?7");
    }

    @Holds(promise = Holds.TERMS, says = "FAULT: the place (from 0) of the first byte with which no TEXT goes on;")
    static void theFirstFaultIsTold() {
        faultAt(0, ")", "x", "+", "=", "?", ";", "\u0000", "\u00ff", "\u0080", "~", "#", "/");
        faultAt(1, "y)", "y\u0000", "y\u00ff", "y~", "y))((", "k:", "9:", "9,", "9.");
        faultAt(3, "1<2<3", "y?1?2", "y;1)");
        faultAt(6, "y?1;k+)");
        faultAt(119, SIXTY_ONES + "y");
    }

    @Holds(promise = Holds.TERMS, says = "the length, if it ends too early.")
    static void aTextThatEndsTooEarlyHasItsFaultAtItsEnd() {
        faultAt(0, "");
        faultAt(1, "(", "!", "-");
        faultAt(2, "y?", "y;", "y+", "y<", "y|", "y&", "y*", "(y");
        faultAt(6, "((((((", "!!!!!!", "------", "y?1;k+");
        faultAt(7, "((((((y");
        faultAt(12, "((((((y)))))");
        faultAt(120, SIXTY_ONES + "+", SIXTY_ONES + ";", SIXTY_ONES + "?", "(" + SIXTY_ONES);
    }

    @Holds(promise = Holds.TERMS, says = "It gives by how many hundredths that MARK is on a PART of that KIND, TIME, WOOD and PLACE (held within 0 .. 100).")
    static void belowZeroIsZeroAndAbove100Is100() {
        gives(0, "0-1", "0", "-9999", "-1", "2048*1024*1024");
        gives(1, "1");
        gives(99, "99");
        gives(100, "100", "101", "9999", "2048*1024*1024-1");
        Run run = Edges.withParts(28, 82).law(1, "(y=29&k=5)*40+w*5+p");
        run.due(18, "number(1, 0)").due(58, "number(1, 529)").due(18, "number(1, 528)").due(18, "number(1, 429)");
        run.due(42, "number(11, 0)").due(82, "number(11, 529)").due(50, "number(0, 529)");
    }

    @Holds(promise = Holds.TERMS, says = "Without a text 50.")
    static void withoutATextEachNumberIs50() {
        Run run = Edges.withParts(0, 99);
        run.each(50, "number(_, 0)", 0, 1, 2, 3, 4, 5, 10, 15).each(50, "number(0, _)", 29, 500, 529);
        run.fed("y+").due(-102, "law(0)").due(-100, "law(0)").due(50, "number(0, 0)");
        run.law(0, "0").due(0, "number(0, 0)").each(50, "number(_, 0)", 1, 2, 3, 4, 5);
    }
}
