/** The boundary cases of promises 13 to 18, and of 23 as far as it tells of prints and tools. */
public final class ToolEdgeTest {
    private static final Check CHECK = new Check("ToolEdgeTest");

    public static void main(String[] args) {
        promise13FirstAndLastTool();
        promise13FirstAndLastPrint();
        promise13FirstAndLastYear();
        promise13PrintIsThere();
        promise13YearIsThere();
        promise13NoneAheadOfThere();
        promise13AllPrintsOfOneTool();
        promise14FirstAndLastPrint();
        promise14OfNone();
        promise14TheOnlyPrint();
        promise15FirstAndLastPrint();
        promise15LeastAndGreatestWhat();
        promise15LeastAndGreatestAnswers();
        promise16FirstAndLastTool();
        promise16TheSameOne();
        promise16EmptyTools();
        promise16YearsMeet();
        promise16NoneAheadOfThere();
        promise16AllPrints();
        promise17FirstAndLastPrint();
        promise17ThereIsNone();
        promise17LeastToolOfSeveral();
        promise17ItselfDoesNotCount();
        promise17BelowZeroAndZero();
        promise17EachReach();
        promise18OtherWhat();
        promise18FewTools();
        promise18JustTheScore();
        promise18FullCabinet();
        promise18EachReach();
        promise23Prints();
        promise23Tools();
        CHECK.end();
    }

    private static int[] at(int x, int y) {
        return Draw.at(x, y);
    }

    /** All 24 prints, of tools 0 to 9 in turn. */
    private static MarkCabinet fullOfTools() {
        MarkCabinet c = Draw.ofIslands(24);
        for (int k = 0; k < 24; k++) {
            CHECK.due("promise 13: print " + k, 1 + k / 10, c.keep(k % 10, k, k));
        }
        return c;
    }

    // "TOOLS 0 .. 9"
    private static void promise13FirstAndLastTool() {
        MarkCabinet c = Draw.ofIslands(3);
        CHECK.refuses("promise 13: keep(#, 2, 5)", -1, 0, 9, tool -> c.keep(tool, 2, 5));
        CHECK.due("promise 13: keep(0, 0, 5)", 1, c.keep(0, 0, 5));
        CHECK.due("promise 13: keep(9, 1, 5)", 1, c.keep(9, 1, 5));
        CHECK.refuses("promise 13: keep(#, 2, 6)", -1, 0, 9, tool -> c.keep(tool, 2, 6));
        CHECK.belongs("promise 13: the first tool", c, 0, 0, 5);
        CHECK.belongs("promise 13: the last tool", c, 1, 9, 5);
        CHECK.belongs("promise 13: what is refused changes nothing", c, 2, -1, -1);
    }

    private static void promise13FirstAndLastPrint() {
        MarkCabinet empty = new MarkCabinet();
        CHECK.refuses("promise 13: keep(0, #, 5) in an empty cabinet", -1, 1, -1, print -> empty.keep(0, print, 5));
        MarkCabinet c = Draw.ofIslands(2);
        CHECK.refuses("promise 13: keep(0, #, 5)", -1, 0, 1, print -> c.keep(0, print, 5));
        CHECK.due("promise 13: tools behind refusals", 0, c.count(1));
        CHECK.due("promise 13: keep(0, 1, 5)", 1, c.keep(0, 1, 5));
        CHECK.due("promise 13: keep(0, 0, 6)", 2, c.keep(0, 0, 6));
        MarkCabinet full = Draw.ofIslands(24);
        CHECK.refuses("promise 13: keep(0, #, 5) when full", -1, 0, 23, print -> full.keep(0, print, 5));
        CHECK.due("promise 13: keep(0, 23, 5)", 1, full.keep(0, 23, 5));
    }

    // "a YEAR (0 .. 9999)"
    private static void promise13FirstAndLastYear() {
        MarkCabinet c = Draw.ofIslands(3);
        CHECK.refuses("promise 13: keep(3, 0, #)", -1, 0, 9999, year -> c.keep(3, 0, year));
        CHECK.belongs("promise 13: what is refused changes nothing", c, 0, -1, -1);
        CHECK.due("promise 13: the first YEAR", 1, c.keep(3, 0, 0));
        CHECK.due("promise 13: the last YEAR", 2, c.keep(3, 1, 9999));
        CHECK.belongs("promise 13: the first YEAR", c, 0, 3, 0);
        CHECK.belongs("promise 13: the last YEAR", c, 1, 3, 9999);
        CHECK.due("promise 13: the first YEAR is there", -3, c.keep(3, 2, 0));
        CHECK.due("promise 13: the last YEAR is there", -3, c.keep(3, 2, 9999));
        CHECK.refuses("promise 13: keep(3, 2, #)", -1, 0, 9999, year -> c.keep(3, 2, year));
    }

    // "THERE: the PRINT is of a TOOL"
    private static void promise13PrintIsThere() {
        MarkCabinet c = Draw.ofIslands(2);
        c.keep(0, 0, 0);
        for (int tool = 0; tool <= 9; tool++) {
            CHECK.due("promise 13: it is of a tool, keep(" + tool + ", 0, 1)", -3, c.keep(tool, 0, 1));
        }
        CHECK.due("promise 13: with all as it is", -3, c.keep(0, 0, 0));
        CHECK.belongs("promise 13: what is refused changes nothing", c, 0, 0, 0);
        CHECK.due("promise 13: one tool", 1, c.count(1));
        c.part(0);
        CHECK.due("promise 13: it is of none any more", 1, c.keep(9, 0, 9999));
    }

    // "or it has one of that YEAR"
    private static void promise13YearIsThere() {
        MarkCabinet c = Draw.ofIslands(5);
        c.keep(4, 0, 1990);
        CHECK.due("promise 13: that YEAR", -3, c.keep(4, 1, 1990));
        CHECK.belongs("promise 13: what is refused changes nothing", c, 1, -1, -1);
        CHECK.due("promise 13: the YEAR before", 2, c.keep(4, 1, 1989));
        CHECK.due("promise 13: the YEAR behind", 3, c.keep(4, 2, 1991));
        CHECK.due("promise 13: that YEAR of another tool", 1, c.keep(5, 3, 1990));
        c.part(0);
        CHECK.due("promise 13: that YEAR when it is free", 3, c.keep(4, 4, 1990));
        CHECK.due("promise 13: that YEAR when it is not", -3, c.keep(4, 0, 1990));
    }

    private static void promise13NoneAheadOfThere() {
        MarkCabinet c = Draw.ofIslands(2);
        c.keep(0, 0, 7);
        CHECK.refuses("promise 13: keep(#, 0, 7)", -1, 0, 9, tool -> c.keep(tool, 0, 7));
        CHECK.refuses("promise 13: keep(0, #, 7)", -1, 0, 1, print -> c.keep(0, print, 7));
        CHECK.refuses("promise 13: keep(0, 0, #)", -1, 0, 9999, year -> c.keep(0, 0, year));
        CHECK.belongs("promise 13: what is refused changes nothing", c, 0, 0, 7);
    }

    private static void promise13AllPrintsOfOneTool() {
        MarkCabinet c = Draw.ofIslands(24);
        for (int k = 0; k < 24; k++) {
            CHECK.due("promise 13: all of one tool", k + 1, c.keep(9, k, 9999 - k));
        }
        for (int k = 0; k < 24; k++) {
            CHECK.due("promise 13: each is there", -3, c.keep(9, k, 0));
            CHECK.belongs("promise 13: all of one tool", c, k, 9, 9999 - k);
        }
    }

    private static void promise14FirstAndLastPrint() {
        MarkCabinet empty = new MarkCabinet();
        CHECK.refuses("promise 14: part(#) in an empty cabinet", -1, 1, -1, empty::part);
        MarkCabinet c = fullOfTools();
        CHECK.refuses("promise 14: part(#) when full", -1, 0, 23, c::part);
        CHECK.due("promise 14: part(0)", 1, c.part(0));
        CHECK.due("promise 14: part(23)", 1, c.part(23));
        CHECK.belongs("promise 14: the first", c, 0, -1, -1);
        CHECK.belongs("promise 14: the last", c, 23, -1, -1);
        CHECK.belongs("promise 14: the second stays", c, 1, 1, 1);
        CHECK.belongs("promise 14: the last but one stays", c, 22, 2, 22);
        MarkCabinet two = Draw.ofIslands(2);
        CHECK.refuses("promise 14: part(#)", -1, 0, 1, two::part);
    }

    // "EMPTY: it is of none."
    private static void promise14OfNone() {
        MarkCabinet c = Draw.ofIslands(2);
        CHECK.due("promise 14: never of a tool", -4, c.part(0));
        c.keep(0, 0, 0);
        CHECK.due("promise 14: of the first tool and the first YEAR", 1, c.part(0));
        CHECK.due("promise 14: not any more", -4, c.part(0));
        CHECK.belongs("promise 14: what is refused changes nothing", c, 0, -1, -1);
        CHECK.due("promise 14: it comes back", 1, c.keep(0, 0, 0));
        CHECK.due("promise 14: it goes again", 1, c.part(0));
    }

    private static void promise14TheOnlyPrint() {
        MarkCabinet c = Draw.ofIslands(2);
        c.keep(6, 0, 10);
        CHECK.due("promise 14: tools", 1, c.count(1));
        c.part(0);
        CHECK.due("promise 14: the tool is empty", 0, c.count(1));
        CHECK.due("promise 14: the print is there", 2, c.count(0));
        CHECK.due("promise 14: flaws of the empty tool", -4, c.flaws(6));
        CHECK.due("promise 14: age by the empty tool", -4, c.age(0, 6));
        CHECK.due("promise 14: like without tools", -4, c.like(1));
        CHECK.due("promise 14: its YEAR is free", 1, c.keep(6, 1, 10));
    }

    private static void promise15FirstAndLastPrint() {
        MarkCabinet empty = new MarkCabinet();
        CHECK.refuses("promise 15: of(#, 0) in an empty cabinet", -1000, 1, -1, print -> empty.of(print, 0));
        MarkCabinet c = Draw.ofIslands(2);
        CHECK.refuses("promise 15: of(#, 0)", -1000, 0, 1, print -> c.of(print, 0));
        CHECK.refuses("promise 15: of(#, 1)", -1000, 0, 1, print -> c.of(print, 1));
        MarkCabinet full = fullOfTools();
        CHECK.refuses("promise 15: of(#, 0) when full", -1000, 0, 23, print -> full.of(print, 0));
        CHECK.belongs("promise 15: the first", full, 0, 0, 0);
        CHECK.belongs("promise 15: the last", full, 23, 3, 23);
    }

    private static void promise15LeastAndGreatestWhat() {
        MarkCabinet c = Draw.ofIslands(2);
        c.keep(7, 0, 70);
        CHECK.refuses("promise 15: of(0, #)", -1000, 0, 1, what -> c.of(0, what));
        CHECK.refuses("promise 15: of(1, #)", -1000, 0, 1, what -> c.of(1, what));
        CHECK.due("promise 15: neither is as said", -1000, c.of(2, 2));
        CHECK.belongs("promise 15: behind refusals", c, 0, 7, 70);
    }

    // "(what 0; -1: of none), its YEAR (1; -1)"
    private static void promise15LeastAndGreatestAnswers() {
        MarkCabinet c = Draw.ofIslands(2);
        CHECK.belongs("promise 15: of none", c, 0, -1, -1);
        c.keep(0, 0, 0);
        c.keep(9, 1, 9999);
        CHECK.belongs("promise 15: the least", c, 0, 0, 0);
        CHECK.belongs("promise 15: the greatest", c, 1, 9, 9999);
        c.part(0);
        CHECK.belongs("promise 15: of none any more", c, 0, -1, -1);
    }

    private static void promise16FirstAndLastTool() {
        MarkCabinet c = Draw.ofIslands(2);
        c.keep(0, 0, 1);
        c.keep(9, 1, 2);
        CHECK.refuses("promise 16: melt(#, 0)", -1, 0, 9, tool -> c.melt(tool, 0));
        CHECK.refuses("promise 16: melt(9, #)", -1, 0, 9, tool -> c.melt(9, tool));
        CHECK.belongs("promise 16: what is refused changes nothing", c, 0, 0, 1);
        CHECK.belongs("promise 16: what is refused changes nothing", c, 1, 9, 2);
        CHECK.due("promise 16: melt(9, 0)", 2, c.melt(9, 0));
        CHECK.belongs("promise 16: the first becomes one of the last tool", c, 0, 9, 1);
        CHECK.due("promise 16: melt(0, 9)", 2, c.melt(0, 9));
        CHECK.belongs("promise 16: and back", c, 0, 0, 1);
        CHECK.belongs("promise 16: with all the others", c, 1, 0, 2);
    }

    // "NONE (also the same one)"
    private static void promise16TheSameOne() {
        MarkCabinet c = Draw.ofIslands(2);
        c.keep(3, 0, 1);
        c.keep(3, 1, 2);
        for (int tool = -1; tool <= 10; tool++) {
            CHECK.due("promise 16: melt(" + tool + ", " + tool + ")", -1, c.melt(tool, tool));
        }
        CHECK.belongs("promise 16: what is refused changes nothing", c, 0, 3, 1);
        CHECK.belongs("promise 16: what is refused changes nothing", c, 1, 3, 2);
    }

    private static void promise16EmptyTools() {
        MarkCabinet c = Draw.ofIslands(3);
        CHECK.due("promise 16: both are empty", 0, c.melt(4, 5));
        c.keep(4, 0, 1);
        c.keep(4, 1, 2);
        CHECK.due("promise 16: the second is empty", 2, c.melt(4, 5));
        CHECK.due("promise 16: the first is empty", 2, c.melt(5, 4));
        CHECK.belongs("promise 16: the first was empty", c, 0, 5, 1);
        CHECK.belongs("promise 16: the first was empty", c, 1, 5, 2);
        CHECK.belongs("promise 16: one of no tool stays", c, 2, -1, -1);
        CHECK.due("promise 16: one tool is left", 1, c.count(1));
        CHECK.due("promise 16: the one that is empty now", -4, c.flaws(4));
        CHECK.due("promise 16: it takes prints again", 1, c.keep(4, 2, 1));
    }

    // "THERE: both have one of one YEAR."
    private static void promise16YearsMeet() {
        MarkCabinet c = Draw.ofIslands(6);
        c.keep(1, 0, 10);
        c.keep(1, 1, 20);
        c.keep(1, 2, 30);
        c.keep(2, 3, 9);
        c.keep(2, 4, 11);
        c.keep(2, 5, 30);
        CHECK.due("promise 16: the last YEAR of both", -3, c.melt(1, 2));
        CHECK.due("promise 16: the other way round", -3, c.melt(2, 1));
        for (int k = 0; k < 6; k++) {
            int[] years = {10, 20, 30, 9, 11, 30};
            CHECK.belongs("promise 16: what is refused changes nothing", c, k, 1 + k / 3, years[k]);
        }
        c.part(5);
        c.keep(2, 5, 10);
        CHECK.due("promise 16: the first YEAR of one, the second of the other", -3, c.melt(1, 2));
        c.part(5);
        c.keep(2, 5, 31);
        CHECK.due("promise 16: YEARS beside one another", 6, c.melt(1, 2));
        CHECK.belongs("promise 16: they keep their YEARS", c, 3, 1, 9);
        CHECK.belongs("promise 16: they keep their YEARS", c, 5, 1, 31);
        MarkCabinet ends = Draw.ofIslands(4);
        ends.keep(1, 0, 0);
        ends.keep(2, 1, 9999);
        ends.keep(3, 2, 0);
        ends.keep(4, 3, 9999);
        CHECK.due("promise 16: the least YEAR meets", -3, ends.melt(1, 3));
        CHECK.due("promise 16: the greatest YEAR meets", -3, ends.melt(2, 4));
        CHECK.due("promise 16: the least and the greatest do not meet", 2, ends.melt(1, 2));
    }

    private static void promise16NoneAheadOfThere() {
        MarkCabinet c = Draw.ofIslands(2);
        c.keep(0, 0, 7);
        c.keep(9, 1, 7);
        CHECK.due("promise 16: THERE", -3, c.melt(0, 9));
        CHECK.due("promise 16: the same one has one of one YEAR with itself", -1, c.melt(0, 0));
        CHECK.due("promise 16: melt(10, 9)", -1, c.melt(10, 9));
        CHECK.due("promise 16: melt(0, -1)", -1, c.melt(0, -1));
    }

    private static void promise16AllPrints() {
        MarkCabinet c = fullOfTools();
        int[] due = {6, 9, 12, 14, 16, 18, 20, 22, 24};
        for (int tool = 1; tool <= 9; tool++) {
            CHECK.due("promise 16: tool " + tool + " comes to tool 0", due[tool - 1], c.melt(0, tool));
            CHECK.due("promise 16: tools that are left", 10 - tool, c.count(1));
        }
        for (int k = 0; k < 24; k++) {
            CHECK.belongs("promise 16: all of one tool", c, k, 0, k);
        }
        CHECK.due("promise 16: all of them into an empty one", 24, c.melt(9, 0));
    }

    private static void promise17FirstAndLastPrint() {
        MarkCabinet empty = new MarkCabinet();
        CHECK.refuses("promise 17: like(#) in an empty cabinet", -1, 1, -1, empty::like);
        MarkCabinet c = fullOfTools();
        CHECK.refuses("promise 17: like(#) when full", -1, 0, 23, c::like);
        CHECK.due("promise 17: like(0)", 0, c.like(0));
        CHECK.due("promise 17: like(23)", 0, c.like(23));
        MarkCabinet two = Draw.ofIslands(2);
        CHECK.refuses("promise 17: like(#)", -1, 0, 1, two::like);
    }

    // "EMPTY: there is none."
    private static void promise17ThereIsNone() {
        MarkCabinet c = Draw.ofIslands(3);
        for (int print = 0; print < 3; print++) {
            CHECK.due("promise 17: no tool has prints", -4, c.like(print));
        }
        c.keep(9, 1, 0);
        CHECK.due("promise 17: the last tool alone", 9, c.like(0));
        CHECK.due("promise 17: one's own print alone", -4, c.like(1));
        c.keep(9, 2, 1);
        CHECK.due("promise 17: another one of its tool", 9, c.like(1));
        c.part(2);
        CHECK.due("promise 17: not any more", -4, c.like(1));
        c.part(1);
        CHECK.due("promise 17: none again", -4, c.like(0));
    }

    // "of several the least TOOL"
    private static void promise17LeastToolOfSeveral() {
        MarkCabinet c = Draw.ofIslands(11);
        // the prints' numbers fall as the tools' numbers rise
        for (int tool = 9; tool >= 0; tool--) {
            c.keep(tool, 9 - tool, 5);
            CHECK.due("promise 17: of tools " + tool + " to 9", tool, c.like(10));
        }
        for (int tool = 0; tool < 9; tool++) {
            c.part(9 - tool);
            CHECK.due("promise 17: of tools " + (tool + 1) + " to 9", tool + 1, c.like(10));
        }
    }

    // "some PRINT other than p"
    private static void promise17ItselfDoesNotCount() {
        MarkCabinet c = new MarkCabinet();
        int three = Draw.islands(c, Draw.WHOLE, at(2, 2), at(7, 4), at(4, 11));
        int two = Draw.islands(c, Draw.WHOLE, at(2, 2), at(7, 4));
        int other = Draw.islands(c, Draw.WHOLE, at(9, 9));
        c.keep(1, three, 1);
        c.keep(5, two, 1);
        CHECK.due("promise 17: with itself it would be 30", 5, c.like(three));
        c.keep(1, other, 2);
        CHECK.due("promise 17: its tool's other print is worse", 5, c.like(three));
        c.part(two);
        CHECK.due("promise 17: its tool's other print alone", 1, c.like(three));
    }

    private static void promise17BelowZeroAndZero() {
        MarkCabinet c = new MarkCabinet();
        int one = Draw.islands(c, Draw.WHOLE, at(8, 8));
        int nine = Draw.islands(c, Draw.WHOLE, at(6, 6), at(8, 6), at(10, 6), at(6, 8), at(8, 8), at(10, 8),
            at(6, 10), at(8, 10), at(10, 10));
        int nothing = Draw.nothing(c, Draw.WHOLE);
        CHECK.due("promise 17: a MATCH below 0", -14, c.match(nine, one));
        c.keep(0, nine, 1);
        CHECK.due("promise 17: below 0, but the only one", 0, c.like(one));
        c.keep(9, nothing, 1);
        CHECK.due("promise 17: without a LAYING the SCORE is 0", 9, c.like(one));
        CHECK.due("promise 17: a print without POINTS has 0 with all", 0, c.like(nothing));
    }

    private static void promise17EachReach() {
        MarkCabinet c = new MarkCabinet();
        int[] prints = new int[4];
        for (int k = 0; k <= 3; k++) {
            prints[k] = Draw.islands(c, Draw.WHOLE, at(2, 7), at(8 + k, 7));
        }
        int p = Draw.islands(c, Draw.WHOLE, at(2, 7), at(8, 7));
        for (int k = 0; k <= 3; k++) {
            c.keep(3 - k, prints[k], 1);
        }
        // tool 3 matches by each REACH, tool 3 - k by REACH k and more
        for (int reach = 0; reach <= 3; reach++) {
            c.reach(reach);
            CHECK.due("promise 17: by REACH " + reach, 3 - reach, c.like(p));
        }
    }

    private static void promise18OtherWhat() {
        MarkCabinet empty = new MarkCabinet();
        CHECK.refuses("promise 18: strangers(0, #) in an empty cabinet", -1, 0, 1, what -> empty.strangers(0, what));
        MarkCabinet c = fullOfTools();
        CHECK.refuses("promise 18: strangers(0, #) when full", -1, 0, 1, what -> c.strangers(0, what));
    }

    private static void promise18FewTools() {
        MarkCabinet c = Draw.ofIslands(4);
        int[] due = {0, 0, 1, 3, 6};
        for (int k = 0; k <= 4; k++) {
            CHECK.due("promise 18: " + k + " tools: how many", due[k], c.strangers(10, 0));
            CHECK.due("promise 18: " + k + " tools: of how many", due[k], c.strangers(10, 1));
            if (k < 4) {
                c.keep(k * 3, k, 5 + k);
            }
        }
        c.melt(0, 3);
        CHECK.due("promise 18: two of one tool are none", 5, c.strangers(10, 0));
        c.part(3);
        CHECK.due("promise 18: one of no tool is none", 2, c.strangers(10, 0));
        CHECK.due("promise 18: nor of how many", 2, c.strangers(10, 1));
    }

    // "a MATCH of SCORE s or more"
    private static void promise18JustTheScore() {
        MarkCabinet c = new MarkCabinet();
        c.keep(0, Draw.islands(c, Draw.WHOLE, at(2, 2), at(7, 4), at(4, 11)), 1);
        c.keep(1, Draw.islands(c, Draw.WHOLE, at(2, 2), at(7, 4), at(4, 11)), 1);
        c.keep(2, Draw.nothing(c, Draw.WHOLE), 1);
        int[][] due = {{Integer.MIN_VALUE, 3}, {-1001, 3}, {-1000, 3}, {-999, 3}, {-1, 3}, {0, 3}, {1, 1}, {29, 1},
            {30, 1}, {31, 0}, {Integer.MAX_VALUE, 0}};
        for (int[] d : due) {
            CHECK.due("promise 18: strangers(" + d[0] + ", 0)", d[1], c.strangers(d[0], 0));
            CHECK.due("promise 18: strangers(" + d[0] + ", 1)", 3, c.strangers(d[0], 1));
        }
    }

    private static void promise18FullCabinet() {
        MarkCabinet c = fullOfTools();
        // of 276 pairs 18 are of one tool: four tools have three prints, six have two
        CHECK.due("promise 18: ten tools: of how many", 258, c.strangers(10, 1));
        CHECK.due("promise 18: ten tools: how many", 258, c.strangers(10, 0));
        CHECK.due("promise 18: ten tools: above all", 0, c.strangers(11, 0));
        MarkCabinet two = Draw.ofIslands(24);
        for (int k = 0; k < 24; k++) {
            two.keep(k % 2 * 9, k, k);
        }
        CHECK.due("promise 18: two tools", 144, two.strangers(10, 0));
        two.melt(9, 0);
        CHECK.due("promise 18: one tool", 0, two.strangers(-1000, 0));
        CHECK.due("promise 18: one tool: of how many", 0, two.strangers(-1000, 1));
    }

    private static void promise18EachReach() {
        MarkCabinet c = new MarkCabinet();
        for (int k = 0; k <= 4; k++) {
            c.keep(k, Draw.islands(c, Draw.WHOLE, at(2, 7), at(8 + k, 7)), 1);
        }
        // pairs whose distances are at most REACH apart, of 6 to 10
        int[] due = {0, 4, 7, 9};
        for (int reach = 0; reach <= 3; reach++) {
            c.reach(reach);
            CHECK.due("promise 18: by REACH " + reach, due[reach], c.strangers(20, 0));
            CHECK.due("promise 18: of how many", 10, c.strangers(20, 1));
        }
    }

    private static void promise23Prints() {
        MarkCabinet c = new MarkCabinet();
        CHECK.due("promise 23: no prints", 0, c.count(0));
        for (int k = 1; k <= 25; k++) {
            c.print(Draw.WHOLE);
            CHECK.due("promise 23: prints", Math.min(k, 24), c.count(0));
        }
    }

    // "TOOLS with PRINTS"
    private static void promise23Tools() {
        MarkCabinet c = Draw.ofIslands(11);
        for (int k = 0; k < 10; k++) {
            CHECK.due("promise 23: tools", k, c.count(1));
            c.keep(9 - k, k, 3);
        }
        CHECK.due("promise 23: all tools", 10, c.count(1));
        c.keep(9, 10, 4);
        CHECK.due("promise 23: a second print makes no more of them", 10, c.count(1));
        c.part(10);
        CHECK.due("promise 23: one of two prints goes", 10, c.count(1));
        c.part(0);
        CHECK.due("promise 23: the other one goes", 9, c.count(1));
    }
}
