/** Promises 9 to 12: lay, match, told, pair. */
public final class MatchTest {
    private static final Check CHECK = new Check("MatchTest");

    public static void main(String[] args) {
        beforeAny();
        reachOfAPair();
        turns();
        kindsPairWithTheirOwn();
        mostPairs();
        whichPairs();
        bareByStruckParts();
        struckPartIsTurned();
        offTheGrid();
        layRefuses();
        matchIsTheFirstOfTheBest();
        matchBelowZero();
        noLaying();
        matchRefuses();
        whatIsToldStays();
        twelveOnTwelve();
        CHECK.end();
    }

    private static int[] at(int x, int y) {
        return Draw.at(x, y);
    }

    private static void beforeAny() {
        MarkCabinet c = new MarkCabinet();
        Draw.islands(c, Draw.WHOLE, at(3, 4));
        for (int what = -1; what <= 7; what++) {
            CHECK.due("CHECK.told(" + what + ") before any", -1000, c.told(what));
            CHECK.due("pair(" + what + ") before any", -1, c.pair(what));
        }
        c.like(0);
        c.strangers(0, 0);
        CHECK.due("other calls are none", -1000, c.told(6));
    }

    private static void reachOfAPair() {
        MarkCabinet c = new MarkCabinet();
        // in the middle, so that both parts hold both POINTS
        int a = Draw.islands(c, Draw.WHOLE, at(7, 8));
        int b = Draw.islands(c, Draw.WHOLE, at(8, 7));
        for (int reach = 0; reach <= 3; reach++) {
            c.reach(reach);
            for (int off = -5; off <= 5; off++) {
                int due = Math.abs(off) <= reach ? 10 : -6;
                CHECK.due("reach " + reach + ", columns " + off + " apart", due, c.lay(a, b, 0, 1 + off, -1));
                CHECK.due("reach " + reach + ", rows " + off + " apart", due, c.lay(a, b, 0, 1, -1 + off));
                CHECK.due("reach " + reach + ", both " + off + " apart", due, c.lay(a, b, 0, 1 - off, -1 + off));
            }
        }
        c.lay(a, b, 0, 1, 2);
        CHECK.told("a lay", c, 1, 0, 10, 0, 1, 2, 1);
        CHECK.paired("a lay", c, 0);
        c.lay(a, b, 0, 1, 3);
        CHECK.told("a lay without PAIRS", c, 0, 2, -6, 0, 1, 3, 1);
        CHECK.paired("a lay without PAIRS", c, -1);
    }

    private static void turns() {
        MarkCabinet c = new MarkCabinet();
        int a = Draw.islands(c, Draw.WHOLE, at(3, 4));
        int[] turned = {
            a,
            Draw.islands(c, Draw.WHOLE, at(11, 3)),
            Draw.islands(c, Draw.WHOLE, at(12, 11)),
            Draw.islands(c, Draw.WHOLE, at(4, 12))};
        c.reach(0);
        for (int q = 0; q < 4; q++) {
            for (int k = 0; k < 4; k++) {
                CHECK.due("turn " + q + " on " + k, q == k ? 10 : -6, c.lay(a, turned[k], q, 0, 0));
                CHECK.due("told(3)", q, c.told(3));
            }
        }
        CHECK.due("a shift comes behind the TURN", 10, c.lay(a, turned[0], 1, -8, 1));
        CHECK.told("a shift", c, 1, 0, 10, 1, -8, 1, 1);
    }

    private static void kindsPairWithTheirOwn() {
        MarkCabinet c = new MarkCabinet();
        int island = Draw.islands(c, Draw.WHOLE, at(4, 4));
        Draw.onto(c, "", "", "", "", "....##");
        int ends = c.print(Draw.WHOLE);
        Draw.onto(c, "", "", "", "", "....##", "....##");
        int fork = c.print(Draw.WHOLE);
        CHECK.due("ISLAND on ENDS", -9, c.lay(island, ends, 0, 0, 0));
        CHECK.due("FORK on ENDS", -9, c.lay(fork, ends, 0, 0, 0));
        CHECK.due("ISLAND on FORK", -6, c.lay(island, fork, 0, 0, 0));
        CHECK.due("FORK on FORK", 10, c.lay(fork, fork, 0, 0, 0));
        CHECK.due("ENDS on ENDS", 20, c.lay(ends, ends, 0, 0, 0));
        CHECK.due("no MATCH of ISLAND and FORK", 0, c.match(island, fork));
        CHECK.told("no MATCH", c, 0, 0, 0, 0, 0, 0, 0);
    }

    private static void mostPairs() {
        MarkCabinet c = new MarkCabinet();
        // the first POINT of a could take b's first one, but then the second would have none
        int a = Draw.islands(c, Draw.WHOLE, at(5, 0), at(3, 2));
        int b = Draw.islands(c, Draw.WHOLE, at(4, 1), at(6, 1));
        CHECK.due("the most PAIRS", 20, c.lay(a, b, 0, 0, 0));
        CHECK.told("the most PAIRS", c, 2, 0, 20, 0, 0, 0, 1);
        CHECK.paired("the most PAIRS", c, 1, 0);
        CHECK.due("the other way round", 20, c.lay(b, a, 0, 0, 0));
        CHECK.paired("the other way round", c, 1, 0);
        // a chain: each gives way to the one before it
        int left = Draw.islands(c, Draw.WHOLE, at(2, 5), at(4, 5), at(6, 5), at(8, 5));
        int right = Draw.islands(c, Draw.WHOLE, at(1, 6), at(3, 6), at(5, 6), at(7, 6));
        CHECK.due("a chain", 40, c.lay(left, right, 0, 0, 0));
        CHECK.paired("a chain", c, 0, 1, 2, 3);
        // the last POINT has b's first one alone, so that all the others must give way in turn
        int pushing = Draw.islands(c, Draw.WHOLE, at(1, 1), at(3, 1), at(5, 1), at(7, 1), at(9, 1), at(11, 1), at(13, 1),
            at(0, 3));
        int pushed = Draw.islands(c, Draw.WHOLE, at(0, 2), at(2, 2), at(4, 2), at(6, 2), at(8, 2), at(10, 2), at(12, 2),
            at(14, 2));
        CHECK.due("a long chain", 80, c.lay(pushing, pushed, 0, 0, 0));
        CHECK.paired("a long chain", c, 1, 2, 3, 4, 5, 6, 7, 0);
        CHECK.due("a chain that is shifted", 27, c.lay(left, right, 0, 2, 0));
        CHECK.paired("a chain that is shifted", c, 1, 2, 3, -1);
    }

    private static void whichPairs() {
        MarkCabinet c = new MarkCabinet();
        int one = Draw.islands(c, Draw.WHOLE, at(5, 1));
        int two = Draw.islands(c, Draw.WHOLE, at(4, 0), at(6, 0));
        int twoBelow = Draw.islands(c, Draw.WHOLE, at(4, 2), at(6, 2));
        CHECK.due("one on two", 7, c.lay(one, two, 0, 0, 0));
        CHECK.paired("the lesser POINT of b", c, 0);
        CHECK.due("two on one", 7, c.lay(two, one, 0, 0, 0));
        CHECK.paired("the lesser POINT of a", c, 0, -1);
        CHECK.due("two on one from below", 7, c.lay(twoBelow, one, 0, 0, 0));
        CHECK.paired("the lesser POINT of a again", c, 0, -1);
        // all may pair with all: first with first
        c.reach(3);
        int three = Draw.islands(c, Draw.WHOLE, at(4, 4), at(6, 4), at(5, 6));
        CHECK.due("three on three", 30, c.lay(three, three, 0, 0, 0));
        CHECK.paired("three on three", c, 0, 1, 2);
        CHECK.due("three on three, half turned", 30, c.lay(three, three, 2, -5, -5));
        CHECK.paired("three on three, half turned", c, 0, 1, 2);
        // POINT 0 may pair with b's last one alone, the two others with the first one alone
        c.reach(1);
        int a = Draw.islands(c, Draw.WHOLE, at(12, 1), at(4, 2), at(6, 2));
        int b = Draw.islands(c, Draw.WHOLE, at(5, 1), at(12, 2));
        CHECK.due("three on two", 17, c.lay(a, b, 0, 0, 0));
        CHECK.paired("three on two", c, 1, 0, -1);
    }

    private static void bareByStruckParts() {
        MarkCabinet c = new MarkCabinet();
        int a = Draw.islands(c, 0x0077, at(2, 2));
        int wholeA = Draw.islands(c, Draw.WHOLE, at(2, 2));
        int b = Draw.islands(c, Draw.WHOLE, at(2, 2), at(12, 12));
        CHECK.due("a's part does not hold b's second POINT", 10, c.lay(a, b, 0, 0, 0));
        CHECK.due("a's part holds it", 7, c.lay(wholeA, b, 0, 0, 0));
        CHECK.due("BARE", 1, c.told(1));
        CHECK.due("b on a's part", 10, c.lay(b, a, 0, 0, 0));
        int far = Draw.islands(c, 0xAAFF, at(2, 2));
        CHECK.due("PAIRS that neither part holds: BARE is 0 at least", 10, c.lay(far, far, 0, 0, 0));
        CHECK.due("BARE", 0, c.told(1));
        // just on the part's edges, and just beside them
        int edge = Draw.islands(c, 0x468A, at(4, 6), at(8, 6), at(4, 10), at(8, 10));
        int none = Draw.nothing(c, Draw.WHOLE);
        CHECK.due("POINTS on the edges", 40, c.lay(edge, edge, 0, 0, 0));
        CHECK.due("without POINTS", -12, c.lay(none, edge, 0, 0, 0));
        int small = Draw.nothing(c, 0x468A);
        CHECK.due("edges", -12, c.lay(small, edge, 0, 0, 0));
        CHECK.due("beside the left edge", -6, c.lay(small, edge, 0, 1, 0));
        CHECK.due("beside the right edge", -6, c.lay(small, edge, 0, -1, 0));
        CHECK.due("beside the upper edge", -6, c.lay(small, edge, 0, 0, 1));
        CHECK.due("beside the lower edge", -6, c.lay(small, edge, 0, 0, -1));
        CHECK.due("beside two edges", -3, c.lay(small, edge, 0, -1, -1));
        CHECK.due("a's POINTS on b's edges", -12, c.lay(edge, small, 0, 0, 0));
        CHECK.due("a's POINTS beside b's edge", -6, c.lay(edge, small, 0, 1, 0));
    }

    private static void struckPartIsTurned() {
        MarkCabinet c = new MarkCabinet();
        int a = Draw.nothing(c, 0x003F);
        int b = Draw.islands(c, Draw.WHOLE, at(8, 2), at(8, 8), at(13, 13));
        CHECK.due("columns 0 to 3", 0, c.lay(a, b, 0, 0, 0));
        CHECK.due("rows 0 to 3", -3, c.lay(a, b, 1, 0, 0));
        CHECK.due("columns 12 to 15", -3, c.lay(a, b, 2, 0, 0));
        CHECK.due("rows 12 to 15", -3, c.lay(a, b, 3, 0, 0));
        CHECK.due("columns 8 to 11", -6, c.lay(a, b, 0, 8, 0));
        CHECK.due("rows 5 to 8", -3, c.lay(a, b, 1, 0, 5));
        CHECK.due("rows 5 to 8, columns 9 and more", 0, c.lay(a, b, 1, 9, 5));
        int corner = Draw.nothing(c, 0x1254);
        // columns 1 to 5, rows 2 to 4: a quarter makes columns 11 to 13 and rows 1 to 5 of it
        int points = Draw.islands(c, Draw.WHOLE, at(11, 1), at(13, 5), at(10, 3), at(14, 3), at(12, 0), at(12, 6));
        CHECK.due("a corner's part", -6, c.lay(corner, points, 1, 0, 0));
        CHECK.due("a corner's part, one lower", -6, c.lay(corner, points, 1, 0, 1));
        CHECK.due("a corner's part, one to the left", -6, c.lay(corner, points, 1, -1, 0));
    }

    private static void offTheGrid() {
        MarkCabinet c = new MarkCabinet();
        int a = Draw.islands(c, Draw.WHOLE, at(15, 5));
        int b = Draw.islands(c, Draw.WHOLE, at(0, 5));
        CHECK.due("a POINT beside the grid pairs too", 10, c.lay(a, a, 0, 1, 0));
        CHECK.due("to the left of it", 10, c.lay(b, b, 0, -1, 0));
        c.reach(3);
        CHECK.due("three beside it", 10, c.lay(a, a, 0, 3, 0));
        CHECK.due("four beside it", -3, c.lay(a, a, 0, 4, 0));
        CHECK.due("three to the left", 10, c.lay(b, b, 0, -3, 0));
        CHECK.due("four to the left", -3, c.lay(b, b, 0, -4, 0));
        int upper = Draw.islands(c, Draw.WHOLE, at(7, 0));
        int lower = Draw.islands(c, Draw.WHOLE, at(7, 15));
        CHECK.due("three above", 10, c.lay(upper, upper, 0, 0, -3));
        CHECK.due("four above", -3, c.lay(upper, upper, 0, 0, -4));
        CHECK.due("three below", 10, c.lay(lower, lower, 0, 0, 3));
        CHECK.due("four below", -3, c.lay(lower, lower, 0, 0, 4));
        CHECK.due("thirty to the right", 0, c.lay(a, b, 0, 30, 30));
        CHECK.due("thirty to the left", 0, c.lay(b, a, 0, -30, -30));
    }

    private static void layRefuses() {
        MarkCabinet c = new MarkCabinet();
        int a = Draw.islands(c, Draw.WHOLE, at(3, 4));
        int[][] wrong = {
            {-1, a, 0, 0, 0}, {1, a, 0, 0, 0}, {a, -1, 0, 0, 0}, {a, 1, 0, 0, 0}, {a, a, -1, 0, 0}, {a, a, 4, 0, 0},
            {a, a, 0, 31, 0}, {a, a, 0, -31, 0}, {a, a, 0, 0, 31}, {a, a, 0, 0, -31},
            {Integer.MIN_VALUE, a, 0, 0, 0}, {a, Integer.MAX_VALUE, 0, 0, 0}, {a, a, Integer.MIN_VALUE, 0, 0},
            {a, a, 0, Integer.MIN_VALUE, 0}, {a, a, 0, 0, Integer.MAX_VALUE}};
        for (int[] w : wrong) {
            CHECK.due("a wrong lay", -1000, c.lay(w[0], w[1], w[2], w[3], w[4]));
            CHECK.due("told() is still before any", -1000, c.told(2));
        }
        CHECK.due("lay(0, 0, 3, -1, -8)", 10, c.lay(a, a, 3, -1, -8));
        for (int[] w : wrong) {
            c.lay(w[0], w[1], w[2], w[3], w[4]);
            CHECK.told("what is refused changes nothing", c, 1, 0, 10, 3, -1, -8, 1);
            CHECK.paired("what is refused changes nothing", c, 0);
        }
        CHECK.due("the greatest shift", 0, c.lay(a, a, 3, 30, 30));
        CHECK.told("the greatest shift", c, 0, 0, 0, 3, 30, 30, 1);
        CHECK.due("the least shift", 0, c.lay(a, a, 0, -30, -30));
        CHECK.told("the least shift", c, 0, 0, 0, 0, -30, -30, 1);
        CHECK.due("told(7)", -1000, c.told(7));
        CHECK.due("told(-1)", -1000, c.told(-1));
    }

    private static void matchIsTheFirstOfTheBest() {
        MarkCabinet c = new MarkCabinet();
        int a = Draw.islands(c, Draw.WHOLE, at(5, 5));
        int b = Draw.islands(c, Draw.WHOLE, at(3, 9));
        CHECK.due("one on one", 10, c.match(a, b));
        CHECK.told("the least q", c, 1, 0, 10, 0, -2, 4, 1);
        int first = Draw.islands(c, Draw.WHOLE, at(0, 0));
        int last = Draw.islands(c, Draw.WHOLE, at(15, 15));
        CHECK.due("the least shift", 10, c.match(last, first));
        CHECK.told("the least shift", c, 1, 0, 10, 0, -15, -15, 1);
        CHECK.due("the greatest shift", 10, c.match(first, last));
        CHECK.told("the greatest shift", c, 1, 0, 10, 0, 15, 15, 1);
        int lone = Draw.islands(c, 0x5555, at(5, 5));
        int beside = Draw.islands(c, Draw.WHOLE, at(3, 5), at(9, 5));
        CHECK.due("one on two in a row", 10, c.match(lone, beside));
        CHECK.told("the least dx", c, 1, 0, 10, 0, -2, 0, 1);
        int slant = Draw.islands(c, Draw.WHOLE, at(3, 9), at(9, 3));
        CHECK.due("one on two aslant", 10, c.match(lone, slant));
        CHECK.told("the least dy goes ahead of the least dx", c, 1, 0, 10, 0, 4, -2, 1);
        CHECK.paired("the least dy", c, 0);
        // only the TURN by three quarters lays all POINTS: (x, y) comes to (y, 15 - x)
        int some = Draw.islands(c, Draw.WHOLE, at(1, 1), at(5, 2), at(12, 4), at(3, 8), at(9, 12));
        int turned = Draw.islands(c, Draw.WHOLE, at(1, 14), at(2, 10), at(4, 3), at(8, 12), at(12, 6));
        c.reach(0);
        CHECK.due("five by three quarters", 50, c.match(some, turned));
        CHECK.told("five by three quarters", c, 5, 0, 50, 3, 0, 0, 1);
        CHECK.paired("five by three quarters", c, 4, 2, 0, 3, 1);
        CHECK.due("five back by one quarter", 50, c.match(turned, some));
        CHECK.told("five back by one quarter", c, 5, 0, 50, 1, 0, 0, 1);
        // a LAYING must lay some POINT just on another one: one that only comes near is none of them
        c.reach(1);
        CHECK.due("just on one", 10, c.match(a, b));
        CHECK.told("just on one", c, 1, 0, 10, 0, -2, 4, 1);
    }

    private static void matchBelowZero() {
        MarkCabinet c = new MarkCabinet();
        int a = Draw.islands(c, Draw.WHOLE, at(8, 8));
        int b = Draw.islands(c, Draw.WHOLE, at(6, 6), at(8, 6), at(10, 6), at(6, 8), at(8, 8), at(10, 8),
            at(6, 10), at(8, 10), at(10, 10));
        CHECK.due("one among nine", -14, c.match(a, b));
        CHECK.told("one among nine", c, 1, 8, -14, 0, -2, -2, 1);
        CHECK.paired("one among nine", c, 0);
    }

    private static void noLaying() {
        MarkCabinet c = new MarkCabinet();
        int a = Draw.islands(c, Draw.WHOLE, at(8, 8), at(3, 3));
        Draw.onto(c, "", "", "..###");
        int ends = c.print(Draw.WHOLE);
        int nothing = Draw.nothing(c, Draw.WHOLE);
        c.lay(a, a, 2, 3, 4);
        CHECK.due("ISLANDS and ENDS", 0, c.match(a, ends));
        CHECK.told("ISLANDS and ENDS", c, 0, 0, 0, 0, 0, 0, 0);
        CHECK.paired("ISLANDS and ENDS", c, -1, -1);
        c.match(a, a);
        CHECK.paired("with itself", c, 0, 1);
        CHECK.due("without POINTS", 0, c.match(nothing, a));
        CHECK.told("without POINTS", c, 0, 0, 0, 0, 0, 0, 0);
        CHECK.paired("without POINTS", c);
        CHECK.due("on one without POINTS", 0, c.match(a, nothing));
        CHECK.paired("on one without POINTS", c, -1, -1);
    }

    private static void matchRefuses() {
        MarkCabinet c = new MarkCabinet();
        int[] wrong = {-1, 1, 24, Integer.MIN_VALUE, Integer.MAX_VALUE};
        CHECK.due("match() in an empty cabinet", -1000, c.match(0, 0));
        int a = Draw.islands(c, Draw.WHOLE, at(3, 4), at(9, 9));
        for (int number : wrong) {
            CHECK.due("match(" + number + ", 0)", -1000, c.match(number, a));
            CHECK.due("match(0, " + number + ")", -1000, c.match(a, number));
            CHECK.due("told() is still before any", -1000, c.told(6));
        }
        c.match(a, a);
        for (int number : wrong) {
            c.match(number, a);
            CHECK.told("what is refused changes nothing", c, 2, 0, 20, 0, 0, 0, 1);
        }
    }

    private static void whatIsToldStays() {
        MarkCabinet c = new MarkCabinet();
        int a = Draw.islands(c, Draw.WHOLE, at(3, 4), at(9, 9), at(12, 2));
        int b = Draw.islands(c, Draw.WHOLE, at(4, 4), at(9, 10));
        c.keep(0, a, 1);
        c.keep(1, b, 2);
        int other = Draw.islands(c, Draw.WHOLE, at(1, 1));
        c.keep(1, other, 3);
        CHECK.due("a lay", 17, c.lay(a, b, 0, 0, 0));
        c.reach(0);
        c.like(b);
        c.strangers(0, 0);
        c.flaws(1);
        c.flaw(1, 0, 0);
        c.age(a, 1);
        c.melt(0, 1);
        c.part(a);
        c.feed(0, 65535);
        c.thin();
        c.print(Draw.WHOLE);
        CHECK.told("other calls change nothing", c, 2, 1, 17, 0, 0, 0, 1);
        CHECK.paired("other calls change nothing", c, -1, 0, 1);
        CHECK.due("by another REACH", -15, c.lay(a, b, 0, 0, 0));
        CHECK.due("a MATCH by another REACH", 10, c.match(other, b));
    }

    private static void twelveOnTwelve() {
        MarkCabinet c = new MarkCabinet();
        for (int y = 0; y < 16; y++) {
            c.feed(y, y == 2 ? 0xAAAA : y == 4 ? 0xAA00 : y == 14 ? 0x8001 : 0);
        }
        int a = c.print(Draw.WHOLE);
        CHECK.due("twelve POINTS of fourteen", 12, c.point(a, -1));
        CHECK.due("twelve on twelve", 120, c.match(a, a));
        CHECK.told("twelve on twelve", c, 12, 0, 120, 0, 0, 0, 1);
        CHECK.paired("twelve on twelve", c, 0, 1, 2, 3, 4, 5, 6, 7, 8, 9, 10, 11);
        c.reach(3);
        CHECK.due("twelve on twelve by REACH 3", 120, c.match(a, a));
    }
}
