/** The boundary cases of promises 6 to 8: print, point, reach. */
public final class PrintEdgeTest {
    private static final Check CHECK = new Check("PrintEdgeTest");

    public static void main(String[] args) {
        promise6LeastAndGreatestNumber();
        promise6ColumnsMeetAndCross();
        promise6RowsMeetAndCross();
        promise6OrderOfTheDigits();
        promise6FirstAndLastPrint();
        promise6NoneAheadOfFull();
        promise6WithoutDarkAndDarkAlone();
        promise6IsNotThinned();
        promise6StaysAsItWas();
        promise7FirstAndLastPrint();
        promise7FirstAndLastWhat();
        promise7WithoutPoints();
        promise7TwelfthAndThirteenthPoint();
        promise7ThirteenthIsOfAnyKind();
        promise7LeastAndGreatestNumbers();
        promise8EachReach();
        promise8RefusedChangesNothing();
        CHECK.end();
    }

    private static int[] at(int x, int y) {
        return Draw.at(x, y);
    }

    /** STRUCK parts as the document writes them: "as digits of base 16: x0, y0, x1, y1". */
    private static int struck(int x0, int y0, int x1, int y1) {
        return ((x0 * 16 + y0) * 16 + x1) * 16 + y1;
    }

    private static MarkCabinet full() {
        MarkCabinet c = new MarkCabinet();
        for (int k = 0; k < 24; k++) {
            c.feed(0, 0x8000 >> k % 16);
            CHECK.due("print " + k, k, c.print(Draw.WHOLE));
        }
        return c;
    }

    // "-1 or a number of 65536 and more"
    private static void promise6LeastAndGreatestNumber() {
        MarkCabinet c = new MarkCabinet();
        CHECK.due("promise 6: print(0)", 0, c.print(0));
        CHECK.due("promise 6: print(65535)", 1, c.print(65535));
        CHECK.refuses("promise 6: print(#)", -1, 0, 65535, c::print);
        CHECK.due("promise 6: 65536 and a part", -1, c.print(65536 + Draw.WHOLE));
        CHECK.due("promise 6: a part below 0", -1, c.print(Draw.WHOLE - 65536));
        CHECK.due("promise 6: prints behind refusals", 2, c.count(0));
        CHECK.due("promise 6: what is refused takes no number", 2, c.print(Draw.WHOLE));
    }

    // "also x0 above x1"
    private static void promise6ColumnsMeetAndCross() {
        MarkCabinet c = new MarkCabinet();
        for (int x = 0; x < 16; x++) {
            CHECK.due("promise 6: columns " + x + " to " + x, x, c.print(struck(x, 0, x, 15)));
        }
        for (int x = 1; x < 16; x++) {
            CHECK.due("promise 6: columns " + x + " to " + (x - 1), -1, c.print(struck(x, 0, x - 1, 15)));
            CHECK.due("promise 6: columns " + x + " to 0", -1, c.print(struck(x, 0, 0, 15)));
        }
        CHECK.due("promise 6: prints behind refusals", 16, c.count(0));
    }

    // "y0 above y1"
    private static void promise6RowsMeetAndCross() {
        MarkCabinet c = new MarkCabinet();
        for (int y = 0; y < 16; y++) {
            CHECK.due("promise 6: rows " + y + " to " + y, y, c.print(struck(0, y, 15, y)));
        }
        for (int y = 1; y < 16; y++) {
            CHECK.due("promise 6: rows " + y + " to " + (y - 1), -1, c.print(struck(0, y, 15, y - 1)));
            CHECK.due("promise 6: rows " + y + " to 0", -1, c.print(struck(0, y, 15, 0)));
        }
        CHECK.due("promise 6: prints behind refusals", 16, c.count(0));
    }

    /** A part that is shifted over one POINT tells where its edges are; they are inclusive. */
    private static void promise6OrderOfTheDigits() {
        MarkCabinet c = new MarkCabinet();
        int part = Draw.nothing(c, struck(2, 3, 4, 8));
        int point = Draw.islands(c, Draw.WHOLE, at(10, 10));
        for (int dx = 5; dx <= 9; dx++) {
            for (int dy = 1; dy <= 8; dy++) {
                boolean inside = dx >= 6 && dx <= 8 && dy >= 2 && dy <= 7;
                CHECK.due("promise 6: the part " + dx + ", " + dy, inside ? -3 : 0, c.lay(part, point, 0, dx, dy));
                CHECK.due("promise 6: the POINT " + -dx + ", " + -dy, inside ? -3 : 0, c.lay(point, part, 0, -dx, -dy));
            }
        }
    }

    // "PRINTS 0 .. 23, as they were made"; "FULL"
    private static void promise6FirstAndLastPrint() {
        MarkCabinet c = full();
        CHECK.due("promise 6: the 25th", -2, c.print(Draw.WHOLE));
        CHECK.due("promise 6: the 25th with the least part", -2, c.print(0));
        CHECK.due("promise 6: the 25th with the last part", -2, c.print(65535));
        CHECK.due("promise 6: prints behind refusals", 24, c.count(0));
        for (int k = 0; k < 24; k++) {
            CHECK.points("promise 6: print " + k + " stays", c, k, new int[] {k % 16, 0, 0});
        }
        CHECK.due("promise 6: the grid stays", 0x0100, c.row(0));
        CHECK.due("promise 6: one of them comes to a tool", 1, c.keep(0, 23, 1));
        CHECK.due("promise 6: that makes no room", -2, c.print(Draw.WHOLE));
    }

    // "Answers, the first that a call names": NONE stands ahead of FULL
    private static void promise6NoneAheadOfFull() {
        MarkCabinet c = full();
        CHECK.refuses("promise 6: print(#) when full", -1, 0, 65535, c::print);
        CHECK.due("promise 6: x0 above x1 when full", -1, c.print(struck(1, 0, 0, 15)));
        CHECK.due("promise 6: y0 above y1 when full", -1, c.print(struck(0, 15, 15, 14)));
        CHECK.due("promise 6: when full", -2, c.print(struck(0, 15, 15, 15)));
    }

    private static void promise6WithoutDarkAndDarkAlone() {
        MarkCabinet c = new MarkCabinet();
        CHECK.points("promise 6: a grid without DARK cells", c, c.print(Draw.WHOLE));
        Draw.rows(c, 65535);
        int[][] forks = new int[12][];
        for (int i = 0; i < 12; i++) {
            forks[i] = new int[] {2 * (i % 8), 2 * (i / 8), 2};
        }
        CHECK.points("promise 6: DARK cells alone", c, c.print(Draw.WHOLE), forks);
    }

    // "it is not thinned by this"
    private static void promise6IsNotThinned() {
        MarkCabinet c = new MarkCabinet();
        Draw.rows(c, 65535);
        c.print(Draw.WHOLE);
        CHECK.due("promise 6: all cells are there still", 256, c.count(2));
        CHECK.due("promise 6: as many can go still", 240, c.thin());
        CHECK.points("promise 6: a print of what was left", c, c.print(Draw.WHOLE),
            new int[] {0, 15, 1}, new int[] {15, 15, 1});
    }

    private static void promise6StaysAsItWas() {
        MarkCabinet c = new MarkCabinet();
        c.feed(0, 0x8000);
        int first = c.print(Draw.WHOLE);
        c.feed(0, 0xC000);
        int second = c.print(Draw.WHOLE);
        c.feed(0, 0);
        c.feed(15, 1);
        int third = c.print(Draw.WHOLE);
        CHECK.points("promise 6: the first", c, first, new int[] {0, 0, 0});
        CHECK.points("promise 6: the second", c, second, new int[] {0, 0, 1}, new int[] {1, 0, 1});
        CHECK.points("promise 6: the third", c, third, new int[] {15, 15, 0});
    }

    private static void promise7FirstAndLastPrint() {
        MarkCabinet c = new MarkCabinet();
        CHECK.refuses("promise 7: point(#, -1) in an empty cabinet", -1, 1, -1, p -> c.point(p, -1));
        c.feed(3, 1);
        c.print(Draw.WHOLE);
        c.print(Draw.WHOLE);
        CHECK.due("promise 7: point(1, -1)", 1, c.point(1, -1));
        CHECK.due("promise 7: point(1, 0)", 15, c.point(1, 0));
        CHECK.refuses("promise 7: point(#, -1)", -1, 0, 1, p -> c.point(p, -1));
        CHECK.refuses("promise 7: point(#, 0)", -1, 0, 1, p -> c.point(p, 0));
        MarkCabinet full = full();
        CHECK.due("promise 7: point(0, -1) when full", 1, full.point(0, -1));
        CHECK.due("promise 7: point(23, -1) when full", 1, full.point(23, -1));
        CHECK.refuses("promise 7: point(#, -1) when full", -1, 0, 23, p -> full.point(p, -1));
    }

    // "what -1", "as what 3 i and this"
    private static void promise7FirstAndLastWhat() {
        MarkCabinet c = new MarkCabinet();
        int p = Draw.islands(c, Draw.WHOLE, at(4, 1), at(9, 6));
        CHECK.points("promise 7: two POINTS", c, p, new int[] {4, 1, 0}, new int[] {9, 6, 0});
        CHECK.refuses("promise 7: point(0, #)", -1, -1, 5, what -> c.point(p, what));
    }

    private static void promise7WithoutPoints() {
        MarkCabinet c = new MarkCabinet();
        int p = c.print(Draw.WHOLE);
        CHECK.due("promise 7: how many POINTS", 0, c.point(p, -1));
        CHECK.refuses("promise 7: point(0, #) without POINTS", -1, -1, -1, what -> c.point(p, what));
        for (int what = 0; what < 36; what++) {
            CHECK.due("promise 7: point(0, " + what + ") without POINTS", -1, c.point(p, what));
        }
    }

    // "The first 12 count."
    private static void promise7TwelfthAndThirteenthPoint() {
        MarkCabinet c = new MarkCabinet();
        c.feed(1, 0xAAAA);
        int[] more = {0xA800, 0xAA00, 0xAA80, 0xAAA0};
        int[] counted = {11, 12, 12, 12};
        for (int k = 0; k < more.length; k++) {
            c.feed(4, more[k]);
            int print = c.print(Draw.WHOLE);
            CHECK.due("promise 7: POINTS of the grid", 11 + k, c.count(3));
            CHECK.due("promise 7: POINTS that count", counted[k], c.point(print, -1));
            CHECK.refuses("promise 7: point(" + print + ", #)", -1, -1, 3 * counted[k] - 1, w -> c.point(print, w));
            CHECK.due("promise 7: the last one's column", 2 * (counted[k] - 9), c.point(print, 3 * counted[k] - 3));
            CHECK.due("promise 7: the last one's row", 4, c.point(print, 3 * counted[k] - 2));
            CHECK.due("promise 7: the last one's KIND", 0, c.point(print, 3 * counted[k] - 1));
        }
        // with twelve and with thirteen in the grid the prints are the same
        CHECK.due("promise 7: the thirteenth does not match", 120, c.match(2, 1));
        CHECK.due("promise 7: nor is it BARE", 0, c.told(1));
        CHECK.due("promise 7: nor has it a PAIR", -1, c.pair(12));
    }

    /** Rows decide which POINTS are the first ones, whatever their KINDS. */
    private static void promise7ThirteenthIsOfAnyKind() {
        MarkCabinet c = new MarkCabinet();
        c.feed(1, 0xAAAA);
        c.feed(3, 0xA800);
        c.feed(5, 0xC000);
        int ends = c.print(Draw.WHOLE);
        CHECK.due("promise 7: the second END is the thirteenth", 13, c.count(3));
        CHECK.due("promise 7: the first END's column", 0, c.point(ends, 33));
        CHECK.due("promise 7: the first END's KIND", 1, c.point(ends, 35));
        c.feed(3, 0xAA00);
        c.feed(6, 0xC000);
        int forks = c.print(Draw.WHOLE);
        CHECK.due("promise 7: a FORK is the thirteenth", 13, c.count(3));
        CHECK.due("promise 7: twelve ISLANDS are ahead of it", 12, c.point(forks, -1));
        CHECK.due("promise 7: the last one's KIND", 0, c.point(forks, 35));
        c.feed(3, 0xA800);
        int twelfth = c.print(Draw.WHOLE);
        CHECK.due("promise 7: a FORK is the twelfth", 2, c.point(twelfth, 35));
    }

    private static void promise7LeastAndGreatestNumbers() {
        MarkCabinet c = new MarkCabinet();
        c.feed(0, 0x8000);
        c.feed(7, 0x0003);
        c.feed(14, 0x0003);
        c.feed(15, 0x0003);
        CHECK.points("promise 7: the least and the greatest", c, c.print(Draw.WHOLE),
            new int[] {0, 0, 0}, new int[] {14, 7, 1}, new int[] {15, 7, 1}, new int[] {14, 14, 2});
        Draw.cells(c, at(15, 15));
        CHECK.points("promise 7: the last cell", c, c.print(Draw.WHOLE), new int[] {15, 15, 0});
    }

    // "REACH (0 .. 3; 1 at first)", "what it was"
    private static void promise8EachReach() {
        MarkCabinet c = new MarkCabinet();
        int was = 1;
        for (int from = 0; from <= 3; from++) {
            for (int to = 0; to <= 3; to++) {
                CHECK.due("promise 8: reach(" + from + ")", was, c.reach(from));
                CHECK.due("promise 8: reach(" + to + ") behind " + from, from, c.reach(to));
                was = to;
            }
        }
        CHECK.refuses("promise 8: reach(#)", -1, 0, 3, c::reach);
        CHECK.due("promise 8: the greatest behind refusals", 3, c.reach(0));
        CHECK.refuses("promise 8: reach(#)", -1, 0, 3, c::reach);
        CHECK.due("promise 8: the least behind refusals", 0, c.reach(0));
    }

    private static void promise8RefusedChangesNothing() {
        MarkCabinet c = new MarkCabinet();
        CHECK.refuses("promise 8: reach(#) at first", -1, 0, 3, c::reach);
        int p = Draw.islands(c, Draw.WHOLE, at(7, 7));
        CHECK.due("promise 8: one apart", 10, c.lay(p, p, 0, 1, 0));
        CHECK.due("promise 8: two apart", -6, c.lay(p, p, 0, 2, 0));
        CHECK.due("promise 8: still 1", 1, c.reach(1));
    }
}
