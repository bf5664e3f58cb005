/** Promises 13 to 18: keep, part, of, melt, like, strangers; and 23 as far as it tells of prints and tools. */
public final class ToolTest {
    private static final Check CHECK = new Check("ToolTest");
    private static final int[] FAR = {-1, Integer.MIN_VALUE, Integer.MAX_VALUE};

    public static void main(String[] args) {
        keepCounts();
        keepRefuses();
        partAndOf();
        partAndOfRefuse();
        meltJoins();
        meltRefuses();
        likeIsTheLeastOfTheBest();
        likeCountsMatchesAlone();
        likeRefuses();
        likeBelowZero();
        strangersAreOfTwoTools();
        strangersOfAScore();
        strangersScoreAsMatched();
        CHECK.end();
    }

    private static int[] at(int x, int y) {
        return Draw.at(x, y);
    }

    private static void keepCounts() {
        MarkCabinet c = Draw.ofIslands(24);
        CHECK.due("the first of tool 0", 1, c.keep(0, 0, 0));
        CHECK.due("the second of tool 0", 2, c.keep(0, 23, 9999));
        CHECK.due("the first of tool 9", 1, c.keep(9, 5, 9999));
        CHECK.due("the third of tool 0", 3, c.keep(0, 7, 5000));
        CHECK.due("prints", 24, c.count(0));
        CHECK.due("tools", 2, c.count(1));
        CHECK.belongs("keep", c, 0, 0, 0);
        CHECK.belongs("keep", c, 23, 0, 9999);
        CHECK.belongs("keep", c, 5, 9, 9999);
        CHECK.belongs("never kept", c, 6, -1, -1);
        MarkCabinet whole = Draw.ofIslands(24);
        for (int k = 0; k < 24; k++) {
            CHECK.due("all to one tool", k + 1, whole.keep(4, k, 100 * k));
        }
        CHECK.due("one tool alone", 1, whole.count(1));
        MarkCabinet spread = Draw.ofIslands(10);
        for (int k = 0; k < 10; k++) {
            CHECK.due("one to each tool", 1, spread.keep(k, k, 7));
            CHECK.due("tools", k + 1, spread.count(1));
        }
    }

    private static void keepRefuses() {
        MarkCabinet c = Draw.ofIslands(4);
        c.keep(3, 0, 1990);
        int[][] none = {{-1, 1, 5}, {10, 1, 5}, {3, -1, 5}, {3, 4, 5}, {3, 1, -1}, {3, 1, 10000},
            {10, 0, 1990}, {3, 4, 1990}, {3, 0, 10000}};
        for (int[] n : none) {
            CHECK.due("keep(" + n[0] + ", " + n[1] + ", " + n[2] + ")", -1, c.keep(n[0], n[1], n[2]));
        }
        for (int far : FAR) {
            CHECK.due("keep(" + far + ", 1, 5)", -1, c.keep(far, 1, 5));
            CHECK.due("keep(3, " + far + ", 5)", -1, c.keep(3, far, 5));
            CHECK.due("keep(3, 1, " + far + ")", -1, c.keep(3, 1, far));
        }
        CHECK.due("the print is of this tool", -3, c.keep(3, 0, 2000));
        CHECK.due("the print is of another tool", -3, c.keep(4, 0, 2000));
        CHECK.due("the tool has one of that YEAR", -3, c.keep(3, 1, 1990));
        CHECK.belongs("what is refused changes nothing", c, 0, 3, 1990);
        CHECK.belongs("what is refused changes nothing", c, 1, -1, -1);
        CHECK.due("tools behind refusals", 1, c.count(1));
        CHECK.due("another tool may have that YEAR", 1, c.keep(4, 1, 1990));
        CHECK.due("how many it has", 2, c.keep(3, 2, 1991));
    }

    private static void partAndOf() {
        MarkCabinet c = Draw.ofIslands(3);
        c.keep(2, 0, 10);
        c.keep(2, 1, 20);
        CHECK.due("part(0)", 1, c.part(0));
        CHECK.belongs("part", c, 0, -1, -1);
        CHECK.belongs("the other one stays", c, 1, 2, 20);
        CHECK.due("part(0) again", -4, c.part(0));
        CHECK.due("of none from the first", -4, c.part(2));
        CHECK.due("its YEAR is free again", 2, c.keep(2, 2, 10));
        CHECK.due("it may come back to another tool", 1, c.keep(7, 0, 10));
        CHECK.belongs("back", c, 0, 7, 10);
        c.part(0);
        CHECK.due("a tool without prints does not count", 1, c.count(1));
        CHECK.due("the print is there still", 1, c.point(0, -1));
        CHECK.due("prints", 3, c.count(0));
    }

    private static void partAndOfRefuse() {
        MarkCabinet c = Draw.ofIslands(2);
        c.keep(0, 0, 0);
        for (int far : FAR) {
            CHECK.due("part(" + far + ")", -1, c.part(far));
            CHECK.due("of(" + far + ", 0)", -1000, c.of(far, 0));
            CHECK.due("of(0, " + far + ")", -1000, c.of(0, far));
        }
        CHECK.due("part(2)", -1, c.part(2));
        CHECK.due("of(2, 0)", -1000, c.of(2, 0));
        CHECK.due("of(0, 2)", -1000, c.of(0, 2));
        CHECK.belongs("behind refusals", c, 0, 0, 0);
    }

    private static void meltJoins() {
        MarkCabinet c = Draw.ofIslands(6);
        c.keep(1, 0, 10);
        c.keep(1, 1, 20);
        c.keep(8, 2, 15);
        c.keep(8, 3, 25);
        c.keep(5, 4, 15);
        CHECK.due("melt(8, 1)", 4, c.melt(8, 1));
        CHECK.belongs("melt", c, 0, 8, 10);
        CHECK.belongs("melt", c, 1, 8, 20);
        CHECK.belongs("melt", c, 2, 8, 15);
        CHECK.belongs("another tool stays", c, 4, 5, 15);
        CHECK.belongs("one of no tool stays", c, 5, -1, -1);
        CHECK.due("tools", 2, c.count(1));
        CHECK.due("a tool without prints into another one", 4, c.melt(8, 1));
        CHECK.due("into a tool without prints", 4, c.melt(1, 8));
        CHECK.belongs("melt back", c, 3, 1, 25);
        CHECK.due("two tools without prints", 0, c.melt(0, 9));
    }

    private static void meltRefuses() {
        MarkCabinet c = Draw.ofIslands(4);
        c.keep(1, 0, 10);
        c.keep(1, 1, 20);
        c.keep(2, 2, 15);
        c.keep(2, 3, 20);
        CHECK.due("both have one of one YEAR", -3, c.melt(1, 2));
        CHECK.due("the other way round", -3, c.melt(2, 1));
        CHECK.belongs("what is refused changes nothing", c, 2, 2, 15);
        CHECK.belongs("what is refused changes nothing", c, 3, 2, 20);
        MarkCabinet two = Draw.ofIslands(2);
        two.keep(1, 0, 10);
        two.keep(2, 1, 10);
        CHECK.due("with one print each", -3, two.melt(1, 2));
        CHECK.due("with one print each, the other way round", -3, two.melt(2, 1));
        CHECK.belongs("with one print each", two, 0, 1, 10);
        CHECK.due("the same one", -1, c.melt(1, 1));
        CHECK.due("melt(10, 1)", -1, c.melt(10, 1));
        CHECK.due("melt(1, 10)", -1, c.melt(1, 10));
        for (int far : FAR) {
            CHECK.due("melt(" + far + ", 1)", -1, c.melt(far, 1));
            CHECK.due("melt(1, " + far + ")", -1, c.melt(1, far));
        }
        CHECK.due("tools", 2, c.count(1));
        c.part(3);
        CHECK.due("when the YEAR is free", 3, c.melt(1, 2));
    }

    private static void likeIsTheLeastOfTheBest() {
        MarkCabinet c = new MarkCabinet();
        int three = Draw.islands(c, Draw.WHOLE, at(2, 2), at(7, 4), at(4, 11));
        int two = Draw.islands(c, Draw.WHOLE, at(2, 2), at(7, 4));
        int same = Draw.islands(c, Draw.WHOLE, at(2, 2), at(7, 4), at(4, 11));
        int again = Draw.islands(c, Draw.WHOLE, at(2, 2), at(7, 4), at(4, 11));
        c.keep(0, two, 5);
        c.keep(6, same, 5);
        CHECK.due("the greatest SCORE", 6, c.like(three));
        c.keep(4, again, 5);
        CHECK.due("of several the least tool, not the least print", 4, c.like(three));
        c.part(again);
        c.keep(8, again, 6);
        CHECK.due("of several the least tool, not the last print", 6, c.like(three));
        CHECK.due("a print itself does not count, its tool's others do", 8, c.like(same));
        c.melt(8, 6);
        CHECK.due("one's own tool", 8, c.like(again));
        c.keep(1, three, 1);
        CHECK.due("its own tool has no other", 8, c.like(three));
    }

    private static void likeCountsMatchesAlone() {
        MarkCabinet c = new MarkCabinet();
        int island = Draw.islands(c, Draw.WHOLE, at(8, 8));
        int crowd = Draw.islands(c, Draw.WHOLE, at(6, 6), at(8, 6), at(10, 6), at(6, 8), at(8, 8), at(10, 8),
            at(6, 10), at(8, 10), at(10, 10));
        Draw.onto(c, "", "", "..###");
        int ends = c.print(Draw.WHOLE);
        c.keep(2, crowd, 1);
        CHECK.due("a SCORE below 0", 2, c.like(island));
        c.keep(7, ends, 1);
        CHECK.due("without a LAYING the SCORE is 0, which is more", 7, c.like(island));
    }

    private static void likeRefuses() {
        MarkCabinet c = Draw.ofIslands(2);
        CHECK.due("no tool has prints", -4, c.like(0));
        c.keep(3, 0, 1);
        CHECK.due("the one print is itself", -4, c.like(0));
        CHECK.due("like(1)", 3, c.like(1));
        CHECK.due("like(2)", -1, c.like(2));
        for (int far : FAR) {
            CHECK.due("like(" + far + ")", -1, c.like(far));
        }
        c.part(0);
        CHECK.due("behind part()", -4, c.like(1));
    }

    private static void likeBelowZero() {
        MarkCabinet c = new MarkCabinet();
        int one = Draw.islands(c, Draw.WHOLE, at(8, 8));
        int nine = Draw.islands(c, Draw.WHOLE, at(6, 6), at(8, 6), at(10, 6), at(6, 8), at(8, 8), at(10, 8),
            at(6, 10), at(8, 10), at(10, 10));
        int five = Draw.islands(c, Draw.WHOLE, at(6, 6), at(10, 6), at(8, 8), at(6, 10), at(10, 10));
        c.keep(0, nine, 1);
        c.keep(1, five, 1);
        CHECK.due("the greater of two SCORES below 0", 1, c.like(one));
        CHECK.due("the MATCH with five", -2, c.match(five, one));
        CHECK.due("the MATCH with nine", -14, c.match(nine, one));
    }

    private static void strangersAreOfTwoTools() {
        MarkCabinet c = Draw.ofIslands(6);
        CHECK.due("of no tools", 0, c.strangers(0, 1));
        c.keep(0, 0, 1);
        c.keep(0, 1, 2);
        CHECK.due("of one tool", 0, c.strangers(0, 1));
        c.keep(1, 2, 3);
        CHECK.due("two and one", 2, c.strangers(0, 1));
        c.keep(1, 3, 4);
        c.keep(9, 4, 1);
        CHECK.due("two, two and one", 8, c.strangers(0, 1));
        CHECK.due("all of them score as much", 8, c.strangers(10, 0));
        CHECK.due("none scores more", 0, c.strangers(11, 0));
        c.melt(0, 1);
        CHECK.due("four and one", 4, c.strangers(0, 1));
        c.part(4);
        CHECK.due("four", 0, c.strangers(-1000, 0));
        c.part(0);
        CHECK.due("prints of no tool are no strangers", 0, c.strangers(-1000, 1));
        c.keep(9, 4, 1);
        CHECK.due("three and one", 3, c.strangers(-1000, 1));
        int[] wrong = {-1, 2, Integer.MIN_VALUE, Integer.MAX_VALUE};
        for (int what : wrong) {
            CHECK.due("strangers(0, " + what + ")", -1, c.strangers(0, what));
        }
    }

    /** What like() and strangers() go by is the SCORE that match() answers. */
    private static void strangersScoreAsMatched() {
        MarkCabinet c = new MarkCabinet();
        c.reach(2);
        // two POINTS of a have one of b alone, and one has two
        int a = Draw.islands(c, Draw.WHOLE, at(4, 4), at(8, 4), at(4, 12));
        int b = Draw.islands(c, Draw.WHOLE, at(6, 4), at(4, 12), at(6, 12));
        c.keep(0, a, 1);
        c.keep(1, b, 1);
        for (int reach = 0; reach <= 3; reach++) {
            c.reach(reach);
            int score = c.match(a, b);
            CHECK.due("as much as the MATCH, REACH " + reach, 1, c.strangers(score, 0));
            CHECK.due("more than the MATCH, REACH " + reach, 0, c.strangers(score + 1, 0));
        }
    }

    private static void strangersOfAScore() {
        MarkCabinet c = new MarkCabinet();
        int one = Draw.islands(c, Draw.WHOLE, at(8, 8));
        int nine = Draw.islands(c, Draw.WHOLE, at(6, 6), at(8, 6), at(10, 6), at(6, 8), at(8, 8), at(10, 8),
            at(6, 10), at(8, 10), at(10, 10));
        Draw.onto(c, "", "", "..###");
        int ends = c.print(Draw.WHOLE);
        c.keep(0, nine, 1);
        c.keep(1, one, 1);
        c.keep(2, ends, 1);
        // SCORES: -14, and twice 0, as there is no LAYING
        int[][] due = {{Integer.MIN_VALUE, 3}, {-15, 3}, {-14, 3}, {-13, 2}, {0, 2}, {1, 0}, {Integer.MAX_VALUE, 0}};
        for (int[] d : due) {
            CHECK.due("strangers(" + d[0] + ", 0)", d[1], c.strangers(d[0], 0));
            CHECK.due("strangers(" + d[0] + ", 1)", 3, c.strangers(d[0], 1));
        }
        int more = c.print(Draw.WHOLE);
        c.keep(3, more, 1);
        CHECK.due("two pairs of ENDS", 1, c.strangers(20, 0));
        c.feed(2, 0x2200);
        c.feed(3, 0x1400);
        c.feed(4, 0x0800);
        int peak = c.print(Draw.WHOLE);
        c.keep(4, peak, 1);
        // its ENDS are four columns apart, those of the two others two
        CHECK.due("ENDS farther apart", 1, c.strangers(20, 0));
        c.reach(3);
        CHECK.due("REACH counts", 3, c.strangers(20, 0));
        c.reach(1);
        CHECK.due("REACH as before", 1, c.strangers(20, 0));
    }
}
