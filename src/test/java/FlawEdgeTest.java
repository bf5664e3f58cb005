import java.util.ArrayList;
import java.util.Arrays;
import java.util.List;

/** The boundary cases of promises 19 to 22: flaws, flaw, age, struck. */
public final class FlawEdgeTest {
    private static final Check CHECK = new Check("FlawEdgeTest");
    // so placed that prints of them match without TURN, whatever comes to them and whatever REACH is
    private static final int[][] BASE = {{4, 1}, {6, 1}, {15, 1}, {0, 4}, {8, 9}};
    // POINT 5 and, if both are there, POINT 6 of a print
    private static final int[] LEFT = {2, 14};
    private static final int[] RIGHT = {14, 14};
    private static final int[][] TWELVE = {{15, 0}, {12, 1}, {8, 2}, {10, 5}, {0, 6}, {15, 7}, {11, 8}, {1, 9}, {14, 9},
        {1, 12}, {3, 13}, {15, 13}};

    public static void main(String[] args) {
        promise19FirstAndLastTool();
        promise19FewerThanTwo();
        promise19NoneAndAll();
        promise19OnTheEdgeOfThePart();
        promise19EarlierYearsAlone();
        promise19WithoutLaying();
        promise19SeveralAsGood();
        promise19EachReach();
        promise20FirstAndLastFlaw();
        promise20LeastAndGreatestWhat();
        promise20NoneAndEmpty();
        promise20ByPoints();
        promise20FirstAndLastYear();
        promise20BehindTheLastThatLacks();
        promise20OneThatDoesNotTell();
        promise20TwelveFlaws();
        promise21FirstAndLastPrint();
        promise21FirstAndLastTool();
        promise21FewerThanTwo();
        promise21OfThatTool();
        promise21NoneAheadOfEmpty();
        promise21FromAndTillMeet();
        promise21GreatestAndLeastComing();
        promise21DoesNotTell();
        promise21SeveralAsGood();
        promise21EachReach();
        promise22BeforeAny();
        promise22LeastAndGreatestWhat();
        promise22LatestOne();
        CHECK.end();
    }

    private static int base(MarkCabinet c, int struck, int[]... more) {
        List<int[]> all = new ArrayList<>(Arrays.asList(BASE));
        all.addAll(Arrays.asList(more));
        return Draw.islands(c, struck, all.toArray(new int[0][]));
    }

    private static void keepBase(MarkCabinet c, int tool, int year, int[]... more) {
        c.keep(tool, base(c, Draw.WHOLE, more), year);
    }

    /** Tool 1: LEFT comes 2000, RIGHT comes with 'later'; prints 0 to 2. */
    private static MarkCabinet twoFlaws(int later) {
        MarkCabinet c = new MarkCabinet();
        keepBase(c, 1, 1990);
        keepBase(c, 1, 2000, LEFT);
        keepBase(c, 1, later, LEFT, RIGHT);
        return c;
    }

    private static void promise19FirstAndLastTool() {
        MarkCabinet empty = new MarkCabinet();
        CHECK.refuses("promise 19: flaws(#) in an empty cabinet", -1, 0, 9, empty::flaws);
        MarkCabinet c = new MarkCabinet();
        for (int tool = 0; tool <= 9; tool += 9) {
            keepBase(c, tool, 1990);
            keepBase(c, tool, 2000, LEFT);
            CHECK.due("promise 19: flaws(" + tool + ")", 1, c.flaws(tool));
        }
        CHECK.refuses("promise 19: flaws(#)", -1, 0, 9, c::flaws);
    }

    // "EMPTY: it has fewer than two PRINTS."
    private static void promise19FewerThanTwo() {
        MarkCabinet c = new MarkCabinet();
        CHECK.due("promise 19: no prints", -4, c.flaws(1));
        keepBase(c, 1, 1990);
        CHECK.due("promise 19: one print", -4, c.flaws(1));
        keepBase(c, 1, 2000, LEFT);
        CHECK.due("promise 19: two prints", 1, c.flaws(1));
        c.part(0);
        CHECK.due("promise 19: one print again", -4, c.flaws(1));
        c.keep(2, 0, 1990);
        CHECK.due("promise 19: one print of each of two tools", -4, c.flaws(2));
        c.melt(2, 1);
        CHECK.due("promise 19: two prints of one of them", 1, c.flaws(2));
        CHECK.due("promise 19: no prints of the other one", -4, c.flaws(1));
    }

    private static void promise19NoneAndAll() {
        MarkCabinet c = new MarkCabinet();
        keepBase(c, 1, 1990, LEFT, RIGHT);
        keepBase(c, 1, 2000, LEFT, RIGHT);
        CHECK.due("promise 19: all have all", 0, c.flaws(1));
        keepBase(c, 1, 2010, LEFT);
        CHECK.due("promise 19: what the latest lacks is no flaw", 0, c.flaws(1));
        keepBase(c, 1, 1980, RIGHT);
        CHECK.due("promise 19: what the first one lacks is one", 1, c.flaws(1));
        // all prints of the cabinet: each lacks what the latest one has alone
        MarkCabinet full = new MarkCabinet();
        for (int k = 0; k < 23; k++) {
            keepBase(full, 1, k);
        }
        keepBase(full, 1, 9999, LEFT, RIGHT);
        CHECK.due("promise 19: a full tool", 2, full.flaws(1));
        CHECK.flawIs("promise 20: a full tool", full, 0, 5, 9999);
        CHECK.flawIs("promise 20: a full tool", full, 1, 6, 9999);
    }

    // "but lies in that one's STRUCK part"
    private static void promise19OnTheEdgeOfThePart() {
        // parts of the earlier print that end just at (14, 14), or one cell ahead of it
        int[][] parts = {{0x00FF, 1}, {0x00EE, 1}, {0x00DF, 0}, {0x00FD, 0}, {0xE0FF, 1}, {0xF0FF, 0}, {0x0EFF, 1},
            {0x0FFF, 0}, {0xEEEE, 1}, {0xDDDD, 0}, {0xFFFF, 0}};
        for (int[] part : parts) {
            MarkCabinet c = new MarkCabinet();
            c.keep(1, base(c, part[0]), 1990);
            keepBase(c, 1, 2000, RIGHT);
            CHECK.due("promise 19: by the part " + Integer.toHexString(part[0]), part[1], c.flaws(1));
        }
    }

    // "that a PRINT of an earlier YEAR lacks"
    private static void promise19EarlierYearsAlone() {
        MarkCabinet c = new MarkCabinet();
        // the latest YEAR is that of the first print
        keepBase(c, 1, 9999, LEFT);
        keepBase(c, 1, 0, RIGHT);
        CHECK.due("promise 19: the first print is the latest", 1, c.flaws(1));
        CHECK.flawIs("promise 20: the first print is the latest", c, 0, 5, 9999);
        c.part(0);
        c.keep(1, 0, 1);
        CHECK.due("promise 19: by one YEAR", 1, c.flaws(1));
        CHECK.flawIs("promise 20: by one YEAR", c, 0, 5, 1);
        keepBase(c, 1, 2, LEFT, RIGHT);
        CHECK.due("promise 19: each of two lacks one", 2, c.flaws(1));
        CHECK.flawIs("promise 20: the one of YEAR 0 lacks it", c, 0, 5, 1);
        CHECK.flawIs("promise 20: the one of YEAR 1 lacks it", c, 1, 6, 2);
    }

    // "without a LAYING none tells"
    private static void promise19WithoutLaying() {
        MarkCabinet c = new MarkCabinet();
        c.keep(1, Draw.nothing(c, Draw.WHOLE), 1990);
        c.keep(1, Draw.nothing(c, Draw.WHOLE), 1991);
        CHECK.due("promise 19: no POINTS at all", 0, c.flaws(1));
        CHECK.due("promise 20: no POINTS at all", -1, c.flaw(1, 0, 0));
        keepBase(c, 1, 2000, LEFT);
        CHECK.due("promise 19: none tells", 0, c.flaws(1));
        keepBase(c, 1, 1980);
        CHECK.due("promise 19: one tells", 1, c.flaws(1));
        // those of 1990 and 1991 have it as little as they lack it
        CHECK.flawIs("promise 20: one tells", c, 0, 5, 2000);
        c.keep(1, Draw.nothing(c, Draw.WHOLE), 2010);
        CHECK.due("promise 19: the latest has no POINTS", 0, c.flaws(1));
    }

    /** The latest print has two POINTS, the other one has one: two LAYINGS are as good. */
    private static MarkCabinet twoAndOne() {
        MarkCabinet c = new MarkCabinet();
        c.keep(1, Draw.islands(c, Draw.WHOLE, Draw.at(7, 7)), 1990);
        c.keep(1, Draw.islands(c, Draw.WHOLE, Draw.at(5, 5), Draw.at(9, 5)), 2000);
        CHECK.due("promise 9: the first on the one", 7, c.lay(1, 0, 0, 2, 2));
        CHECK.due("promise 9: the second on the one", 7, c.lay(1, 0, 0, -2, 2));
        return c;
    }

    // "laid by the MATCH of the latest one (as a) with that (as b)": by the least dx, not by that of b on a
    private static void promise19SeveralAsGood() {
        MarkCabinet c = twoAndOne();
        CHECK.due("promise 19: two LAYINGS as good", 1, c.flaws(1));
        CHECK.flawIs("promise 20: two LAYINGS as good: the second has the PAIR", c, 0, 0, 2000);
    }

    private static void promise19EachReach() {
        for (int apart = 0; apart <= 4; apart++) {
            MarkCabinet c = new MarkCabinet();
            keepBase(c, 1, 1990, Draw.at(14, 14 - apart));
            keepBase(c, 1, 2000, RIGHT);
            for (int reach = 0; reach <= 3; reach++) {
                c.reach(reach);
                CHECK.due("promise 19: " + apart + " apart, REACH " + reach, apart > reach ? 1 : 0, c.flaws(1));
            }
        }
    }

    private static void promise20FirstAndLastFlaw() {
        MarkCabinet c = twoFlaws(2010);
        CHECK.due("promise 20: two flaws", 2, c.flaws(1));
        CHECK.flawIs("promise 20: the first", c, 0, 5, 2000);
        CHECK.flawIs("promise 20: the last", c, 1, 6, 2010);
        CHECK.refuses("promise 20: flaw(1, #, 0)", -1, 0, 1, i -> c.flaw(1, i, 0));
        CHECK.refuses("promise 20: flaw(1, #, 1)", -1, 0, 1, i -> c.flaw(1, i, 1));
        keepBase(c, 2, 1);
        keepBase(c, 2, 2);
        CHECK.due("promise 20: a tool without flaws", 0, c.flaws(2));
        CHECK.refuses("promise 20: flaw(2, #, 0)", -1, 1, -1, i -> c.flaw(2, i, 0));
    }

    private static void promise20LeastAndGreatestWhat() {
        MarkCabinet c = twoFlaws(2010);
        CHECK.refuses("promise 20: flaw(1, 0, #)", -1, 0, 1, what -> c.flaw(1, 0, what));
        CHECK.refuses("promise 20: flaw(1, 1, #)", -1, 0, 1, what -> c.flaw(1, 1, what));
        CHECK.flawIs("promise 20: behind refusals", c, 0, 5, 2000);
    }

    // "NONE: none such; EMPTY."
    private static void promise20NoneAndEmpty() {
        MarkCabinet c = new MarkCabinet();
        for (int prints = 0; prints < 2; prints++) {
            CHECK.due("promise 20: flaw(1, 0, 0), prints: " + prints, -4, c.flaw(1, 0, 0));
            CHECK.due("promise 20: flaw(1, 0, 1), prints: " + prints, -4, c.flaw(1, 0, 1));
            CHECK.due("promise 20: flaw(1, 11, 1), prints: " + prints, -4, c.flaw(1, 11, 1));
            CHECK.refuses("promise 20: flaw(1, 0, #), prints: " + prints, -1, 0, 1, what -> c.flaw(1, 0, what));
            CHECK.refuses("promise 20: flaw(#, 0, 0), prints: " + prints, -1, 0, 9, tool -> c.flaw(tool, 0, 0));
            CHECK.due("promise 20: flaw(1, -1, 0), prints: " + prints, -1, c.flaw(1, -1, 0));
            keepBase(c, 1, 1990);
        }
        MarkCabinet ends = new MarkCabinet();
        for (int tool = 0; tool <= 9; tool += 9) {
            keepBase(ends, tool, 1990);
            keepBase(ends, tool, 2000, LEFT);
            CHECK.due("promise 20: flaw(" + tool + ", 0, 0)", 5, ends.flaw(tool, 0, 0));
            CHECK.due("promise 20: flaw(" + tool + ", 0, 1)", 2000, ends.flaw(tool, 0, 1));
        }
        CHECK.refuses("promise 20: flaw(#, 0, 0)", -1, 0, 9, tool -> ends.flaw(tool, 0, 0));
    }

    // "by POINTS of its latest PRINT"
    private static void promise20ByPoints() {
        MarkCabinet c = new MarkCabinet();
        int[] first = {8, 0};
        keepBase(c, 1, 10);
        keepBase(c, 1, 20, RIGHT);
        keepBase(c, 1, 30, LEFT, RIGHT);
        keepBase(c, 1, 40, first, LEFT, RIGHT);
        CHECK.due("promise 20: three flaws", 3, c.flaws(1));
        CHECK.flawIs("promise 20: the first POINT came last", c, 0, 0, 40);
        CHECK.flawIs("promise 20: the last POINT but one", c, 1, 6, 30);
        CHECK.flawIs("promise 20: the last POINT came first", c, 2, 7, 20);
    }

    private static void promise20FirstAndLastYear() {
        MarkCabinet c = new MarkCabinet();
        keepBase(c, 1, 0);
        keepBase(c, 1, 1, LEFT);
        keepBase(c, 1, 9999, LEFT, RIGHT);
        CHECK.flawIs("promise 20: it comes with the second of all YEARS", c, 0, 5, 1);
        CHECK.flawIs("promise 20: it comes with the last YEAR", c, 1, 6, 9999);
        MarkCabinet late = new MarkCabinet();
        keepBase(late, 1, 9998);
        keepBase(late, 1, 9999, LEFT);
        CHECK.flawIs("promise 20: the last two YEARS", late, 0, 5, 9999);
    }

    // "behind that of the last PRINT that lacks it", "the first YEAR"
    private static void promise20BehindTheLastThatLacks() {
        MarkCabinet c = new MarkCabinet();
        keepBase(c, 1, 50, LEFT);
        keepBase(c, 1, 20, LEFT);
        keepBase(c, 1, 30);
        keepBase(c, 1, 31, LEFT);
        keepBase(c, 1, 10);
        CHECK.due("promise 20: one flaw", 1, c.flaws(1));
        CHECK.flawIs("promise 20: the first one behind 30", c, 0, 5, 31);
        c.part(3);
        CHECK.flawIs("promise 20: the latest one has it", c, 0, 5, 50);
        c.part(2);
        CHECK.flawIs("promise 20: the last that lacks it is of 10 now", c, 0, 5, 20);
        c.part(4);
        CHECK.due("promise 20: none lacks it", 0, c.flaws(1));
        CHECK.due("promise 20: none lacks it", -1, c.flaw(1, 0, 1));
    }

    // "else it does not tell"
    private static void promise20OneThatDoesNotTell() {
        MarkCabinet c = new MarkCabinet();
        keepBase(c, 1, 10);
        c.keep(1, base(c, 0x00FD), 20);
        keepBase(c, 1, 30, LEFT);
        keepBase(c, 1, 40, LEFT);
        CHECK.flawIs("promise 20: 20 neither has nor lacks it", c, 0, 5, 30);
        // its POINT is outside of its own part, and has a PAIR all the same
        c.keep(1, base(c, 0x00FD, LEFT), 19);
        CHECK.flawIs("promise 20: 19 has it", c, 0, 5, 19);
        c.keep(1, base(c, 0x00FE), 21);
        CHECK.flawIs("promise 20: 21 lacks it", c, 0, 5, 30);
    }

    /** Two earlier prints, each with every other POINT of the latest one: all twelve are lacking once. */
    private static void promise20TwelveFlaws() {
        MarkCabinet c = new MarkCabinet();
        for (int odd = 0; odd <= 1; odd++) {
            int[][] half = new int[6][];
            for (int k = 0; k < 6; k++) {
                half[k] = TWELVE[2 * k + odd];
            }
            c.keep(1, Draw.islands(c, Draw.WHOLE, half), 100 + odd);
        }
        c.keep(1, Draw.islands(c, Draw.WHOLE, TWELVE), 200);
        CHECK.due("promise 19: twelve flaws", 12, c.flaws(1));
        for (int i = 0; i < 12; i++) {
            // the print of 100 lacks the odd ones, which that of 101 has
            CHECK.flawIs("promise 20: twelve flaws", c, i, i, i % 2 == 0 ? 200 : 101);
        }
        CHECK.refuses("promise 20: flaw(1, #, 0) of twelve", -1, 0, 11, i -> c.flaw(1, i, 0));
        CHECK.refuses("promise 20: flaw(1, #, 1) of twelve", -1, 0, 11, i -> c.flaw(1, i, 1));
        CHECK.aged("promise 21: all twelve", c, Draw.islands(c, Draw.WHOLE, TWELVE), 1, 200, 10000);
    }

    private static void promise21FirstAndLastPrint() {
        MarkCabinet empty = new MarkCabinet();
        CHECK.refuses("promise 21: age(#, 1) in an empty cabinet", -1, 1, -1, print -> empty.age(print, 1));
        MarkCabinet c = new MarkCabinet();
        int first = base(c, Draw.WHOLE);
        keepBase(c, 1, 1990);
        keepBase(c, 1, 2000, LEFT);
        int last = base(c, Draw.WHOLE, LEFT);
        CHECK.aged("promise 21: the first print", c, first, 1, 0, 2000);
        CHECK.aged("promise 21: the last print", c, last, 1, 2000, 10000);
        CHECK.refuses("promise 21: age(#, 1)", -1, 0, last, print -> c.age(print, 1));
        CHECK.due("promise 22: FROM behind refusals", 2000, c.struck(0));
        CHECK.due("promise 22: TILL behind refusals", 10000, c.struck(1));
        for (int k = last + 1; k < 24; k++) {
            c.print(Draw.WHOLE);
        }
        CHECK.aged("promise 21: the last of all prints", c, 23, 1, 2000, 10000);
        CHECK.refuses("promise 21: age(#, 1) when full", -1, 0, 23, print -> c.age(print, 1));
    }

    private static void promise21FirstAndLastTool() {
        MarkCabinet c = new MarkCabinet();
        int p = base(c, Draw.WHOLE);
        for (int tool = 0; tool <= 9; tool += 9) {
            keepBase(c, tool, 1990 + tool);
            keepBase(c, tool, 2000 + tool, LEFT);
            CHECK.due("promise 21: age(0, " + tool + ")", 1, c.age(p, tool));
            CHECK.due("promise 22: TILL by tool " + tool, 2000 + tool, c.struck(1));
        }
        CHECK.refuses("promise 21: age(0, #)", -1, 0, 9, tool -> c.age(p, tool));
        CHECK.due("promise 22: TILL behind refusals", 2009, c.struck(1));
    }

    // "EMPTY: as flaws()"
    private static void promise21FewerThanTwo() {
        MarkCabinet c = new MarkCabinet();
        int p = base(c, Draw.WHOLE, LEFT);
        CHECK.due("promise 21: no prints", -4, c.age(p, 1));
        keepBase(c, 1, 1990);
        CHECK.due("promise 21: one print", -4, c.age(p, 1));
        CHECK.due("promise 22: still before any", -1, c.struck(0));
        keepBase(c, 1, 2000, LEFT);
        CHECK.aged("promise 21: two prints", c, p, 1, 2000, 10000);
        c.part(1);
        CHECK.due("promise 21: one print again", -4, c.age(p, 1));
        CHECK.due("promise 22: FROM behind refusals", 2000, c.struck(0));
    }

    // "or the PRINT is of that TOOL"
    private static void promise21OfThatTool() {
        MarkCabinet c = twoFlaws(2010);
        for (int print = 0; print <= 2; print++) {
            CHECK.due("promise 21: a print of that tool", -4, c.age(print, 1));
        }
        CHECK.due("promise 22: still before any", -1, c.struck(1));
        keepBase(c, 2, 1990);
        CHECK.due("promise 21: the only one of its tool", -4, c.age(3, 2));
        CHECK.aged("promise 21: a print of another tool", c, 3, 1, 0, 2000);
        c.part(1);
        CHECK.aged("promise 21: of none any more", c, 1, 0, 2010, 2010);
        c.keep(0, 1, 5);
        CHECK.aged("promise 21: of the first tool", c, 1, 0, 2010, 2010);
    }

    private static void promise21NoneAheadOfEmpty() {
        MarkCabinet c = new MarkCabinet();
        keepBase(c, 1, 1990);
        CHECK.refuses("promise 21: age(#, 2), which is empty", -1, 0, 0, print -> c.age(print, 2));
        CHECK.refuses("promise 21: age(#, 1), which has one print", -1, 0, 0, print -> c.age(print, 1));
        CHECK.refuses("promise 21: age(0, #)", -1, 0, 9, tool -> c.age(0, tool));
        CHECK.due("promise 21: neither is as said", -1, c.age(1, 10));
    }

    // "If FROM is TILL or more it is a QUARREL."
    private static void promise21FromAndTillMeet() {
        MarkCabinet next = twoFlaws(2001);
        CHECK.aged("promise 21: FROM is just ahead of TILL", next, base(next, Draw.WHOLE, LEFT), 1, 2000, 2001);
        CHECK.aged("promise 21: FROM is just behind TILL", next, base(next, Draw.WHOLE, RIGHT), 0, 2001, 2000);
        MarkCabinet same = new MarkCabinet();
        keepBase(same, 1, 1990);
        keepBase(same, 1, 2000, LEFT, RIGHT);
        CHECK.aged("promise 21: FROM is TILL", same, base(same, Draw.WHOLE, LEFT), 0, 2000, 2000);
        CHECK.aged("promise 21: FROM is TILL", same, base(same, Draw.WHOLE, RIGHT), 0, 2000, 2000);
        MarkCabinet ends = new MarkCabinet();
        keepBase(ends, 1, 0);
        keepBase(ends, 1, 1, LEFT);
        keepBase(ends, 1, 9999, LEFT, RIGHT);
        CHECK.aged("promise 21: the least TILL", ends, base(ends, Draw.WHOLE), 1, 0, 1);
        CHECK.aged("promise 21: the greatest FROM", ends, base(ends, Draw.WHOLE, LEFT, RIGHT), 1, 9999, 10000);
        CHECK.aged("promise 21: as far apart as can be", ends, base(ends, Draw.WHOLE, RIGHT), 0, 9999, 1);
        CHECK.aged("promise 21: all YEARS between two", ends, base(ends, Draw.WHOLE, LEFT), 1, 1, 9999);
    }

    // "the greatest COMING of those that it has", "the least COMING of those that it lacks"
    private static void promise21GreatestAndLeastComing() {
        MarkCabinet c = twoFlaws(2010);
        CHECK.aged("promise 21: it has both", c, base(c, Draw.WHOLE, LEFT, RIGHT), 1, 2010, 10000);
        CHECK.aged("promise 21: it lacks both", c, base(c, Draw.WHOLE), 1, 0, 2000);
        MarkCabinet turned = new MarkCabinet();
        keepBase(turned, 1, 1990);
        keepBase(turned, 1, 2000, RIGHT);
        keepBase(turned, 1, 2010, LEFT, RIGHT);
        int both = base(turned, Draw.WHOLE, LEFT, RIGHT);
        CHECK.aged("promise 21: it has both, the first one came later", turned, both, 1, 2010, 10000);
        CHECK.aged("promise 21: it lacks both, the first one came later", turned, base(turned, Draw.WHOLE), 1, 0, 2000);
    }

    // "or does not tell", "(0: none)", "(10000: none)"
    private static void promise21DoesNotTell() {
        MarkCabinet c = twoFlaws(2010);
        CHECK.aged("promise 21: its part ends ahead of both", c, base(c, 0x00FD), 1, 0, 10000);
        CHECK.aged("promise 21: its part ends with both", c, base(c, 0x00FE), 1, 0, 2000);
        CHECK.aged("promise 21: its part ends ahead of the second", c, base(c, 0x00DF), 1, 0, 2000);
        CHECK.aged("promise 21: its part begins with the second", c, base(c, 0xE0FF), 1, 0, 2010);
        CHECK.aged("promise 21: its part begins behind the second", c, base(c, 0xF0FF), 1, 0, 10000);
        CHECK.aged("promise 21: it has one outside of its part", c, base(c, 0x00FD, LEFT), 1, 2000, 10000);
        CHECK.aged("promise 21: without POINTS", c, Draw.nothing(c, Draw.WHOLE), 1, 0, 10000);
        Draw.onto(c, "", "##", "", "####");
        CHECK.aged("promise 21: without a LAYING", c, c.print(Draw.WHOLE), 1, 0, 10000);
        MarkCabinet without = new MarkCabinet();
        keepBase(without, 1, 1990);
        keepBase(without, 1, 2000);
        CHECK.aged("promise 21: a tool without flaws", without, base(without, Draw.WHOLE), 1, 0, 10000);
    }

    // "p (as b) is matched by the TOOL's latest PRINT (as a)"
    private static void promise21SeveralAsGood() {
        MarkCabinet c = twoAndOne();
        int p = Draw.islands(c, Draw.WHOLE, Draw.at(6, 8));
        CHECK.aged("promise 21: two LAYINGS as good", c, p, 1, 0, 2000);
    }

    private static void promise21EachReach() {
        MarkCabinet c = twoFlaws(2010);
        int[] prints = new int[5];
        for (int apart = 0; apart <= 4; apart++) {
            prints[apart] = base(c, Draw.WHOLE, LEFT, Draw.at(14, 14 - apart));
        }
        for (int reach = 0; reach <= 3; reach++) {
            c.reach(reach);
            for (int apart = 0; apart <= 4; apart++) {
                boolean has = apart <= reach;
                CHECK.aged("promise 21: " + apart + " apart, REACH " + reach, c, prints[apart], 1, has ? 2010 : 2000,
                    has ? 10000 : 2010);
            }
        }
    }

    private static void promise22BeforeAny() {
        MarkCabinet c = twoFlaws(2010);
        for (int what = -1; what <= 2; what++) {
            CHECK.due("promise 22: struck(" + what + ") before any", -1, c.struck(what));
        }
        c.age(0, 1);
        c.age(3, 1);
        c.age(0, 2);
        c.flaws(1);
        c.flaw(1, 0, 1);
        CHECK.due("promise 22: struck(0) behind refusals", -1, c.struck(0));
        CHECK.due("promise 22: struck(1) behind refusals", -1, c.struck(1));
    }

    private static void promise22LeastAndGreatestWhat() {
        MarkCabinet c = twoFlaws(2010);
        CHECK.aged("promise 22: an age", c, base(c, Draw.WHOLE, LEFT), 1, 2000, 2010);
        CHECK.refuses("promise 22: struck(#)", -1, 0, 1, c::struck);
        CHECK.due("promise 22: FROM behind refusals", 2000, c.struck(0));
        CHECK.due("promise 22: TILL behind refusals", 2010, c.struck(1));
    }

    // "of the latest age() that was not refused"
    private static void promise22LatestOne() {
        MarkCabinet c = twoFlaws(2010);
        int quarrel = base(c, Draw.WHOLE, RIGHT);
        int nothing = Draw.nothing(c, Draw.WHOLE);
        CHECK.aged("promise 22: a QUARREL is told too", c, quarrel, 0, 2010, 2000);
        CHECK.due("promise 21: refused", -4, c.age(0, 1));
        CHECK.due("promise 21: refused", -4, c.age(quarrel, 0));
        CHECK.due("promise 21: refused", -1, c.age(quarrel, 10));
        CHECK.due("promise 21: refused", -1, c.age(5, 1));
        CHECK.due("promise 22: FROM stays", 2010, c.struck(0));
        CHECK.due("promise 22: TILL stays", 2000, c.struck(1));
        CHECK.aged("promise 22: nothing is left of the one before", c, nothing, 1, 0, 10000);
        c.part(1);
        c.reach(0);
        CHECK.due("promise 22: what comes later does not count", 10000, c.struck(1));
    }
}
