import java.util.Arrays;

/** The boundary cases of promises 1 to 5, and of 23 as far as it tells of THE GRID. */
public final class GridEdgeTest {
    private static final Check CHECK = new Check("GridEdgeTest");
    private static final int[][] CORNERS = {{0, 0}, {15, 0}, {0, 15}, {15, 15}};

    public static void main(String[] args) {
        promise1NothingIsThere();
        promise1NoPrints();
        promise1NoTools();
        promise1ObjectsShareNothing();
        promise2FirstAndLastRow();
        promise2LeastAndGreatestBits();
        promise2EachCell();
        promise2FromNoneToAllAndBack();
        promise2RefusedChangesNothing();
        promise3FirstAndLastRow();
        promise4WithoutDark();
        promise4DarkAlone();
        promise4FewestNeighbours();
        promise4NeighboursApart();
        promise4AllSidesDark();
        promise4LinesAlongTheEdges();
        promise4Frame();
        promise4SquaresInTheCorners();
        promise4NothingWrapsAround();
        promise4GoesAtOnce();
        promise4ManySweeps();
        promise5WithoutDarkAndDarkAlone();
        promise5OneCellIsNotDark();
        promise5HolesByTheEdge();
        promise5CornersOfCells();
        promise5Most();
        promise5LongestWalk();
        promise5NothingWrapsAround();
        promise5OtherWhat();
        promise23DarkCells();
        promise23PointsInTheCorners();
        promise23ForksInTheCorners();
        promise23TwoAndThreeNeighbours();
        promise23ForksAheadAndBehind();
        promise23NothingWrapsAround();
        promise23MorePointsThanAPrintHas();
        promise23OtherWhat();
        CHECK.end();
    }

    private static int[] at(int x, int y) {
        return Draw.at(x, y);
    }

    private static MarkCabinet grid(String... picture) {
        MarkCabinet c = new MarkCabinet();
        Draw.onto(c, picture);
        return c;
    }

    private static MarkCabinet cells(int[]... places) {
        MarkCabinet c = new MarkCabinet();
        Draw.cells(c, places);
        return c;
    }

    private static MarkCabinet dark() {
        MarkCabinet c = new MarkCabinet();
        Draw.rows(c, 65535);
        return c;
    }

    /** Thins it, and tells how many went and which rows were left; those that are not told are empty. */
    private static void thins(String of, MarkCabinet c, int gone, String... left) {
        int pieces = c.pieces(0);
        int holes = c.pieces(1);
        CHECK.due("promise 4: " + of, gone, c.thin());
        for (int y = 0; y < 16; y++) {
            CHECK.due("promise 4: " + of + ": row " + y, y < left.length ? Draw.bits(left[y]) : 0, c.row(y));
        }
        CHECK.due("promise 4: " + of + ": again", 0, c.thin());
        CHECK.due("promise 4: " + of + ": pieces as before", pieces, c.pieces(0));
        CHECK.due("promise 4: " + of + ": holes as before", holes, c.pieces(1));
    }

    private static void stays(String of, MarkCabinet c) {
        int[] rows = new int[16];
        for (int y = 0; y < 16; y++) {
            rows[y] = c.row(y);
        }
        CHECK.due("promise 4: " + of, 0, c.thin());
        for (int y = 0; y < 16; y++) {
            CHECK.due("promise 4: " + of + ": row " + y, rows[y], c.row(y));
        }
    }

    private static void hasPieces(String of, MarkCabinet c, int pieces, int holes) {
        CHECK.due("promise 5: pieces of " + of, pieces, c.pieces(0));
        CHECK.due("promise 5: holes of " + of, holes, c.pieces(1));
    }

    // "A grid without DARK cells, no prints, no tools."

    private static void promise1NothingIsThere() {
        MarkCabinet c = new MarkCabinet();
        for (int y = 0; y < 16; y++) {
            CHECK.due("promise 1: row(" + y + ")", 0, c.row(y));
        }
        for (int what = 0; what <= 3; what++) {
            CHECK.due("promise 1: count(" + what + ")", 0, c.count(what));
        }
        for (int what = 0; what <= 6; what++) {
            CHECK.due("promise 1: told(" + what + ")", -1000, c.told(what));
        }
        for (int i = 0; i <= 12; i++) {
            CHECK.due("promise 1: pair(" + i + ")", -1, c.pair(i));
        }
        CHECK.due("promise 1: struck(0)", -1, c.struck(0));
        CHECK.due("promise 1: struck(1)", -1, c.struck(1));
        CHECK.due("promise 1: pieces(0)", 0, c.pieces(0));
        CHECK.due("promise 1: pieces(1)", 0, c.pieces(1));
        CHECK.due("promise 1: REACH is 1 at first", 1, c.reach(0));
        CHECK.due("promise 1: the first print is 0", 0, c.print(Draw.WHOLE));
    }

    private static void promise1NoPrints() {
        MarkCabinet c = new MarkCabinet();
        for (int print = -1; print <= 24; print++) {
            CHECK.due("promise 1: point(" + print + ", -1)", -1, c.point(print, -1));
            CHECK.due("promise 1: keep(0, " + print + ", 0)", -1, c.keep(0, print, 0));
            CHECK.due("promise 1: part(" + print + ")", -1, c.part(print));
            CHECK.due("promise 1: of(" + print + ", 0)", -1000, c.of(print, 0));
            CHECK.due("promise 1: of(" + print + ", 1)", -1000, c.of(print, 1));
            CHECK.due("promise 1: like(" + print + ")", -1, c.like(print));
            CHECK.due("promise 1: age(" + print + ", 0)", -1, c.age(print, 0));
            CHECK.due("promise 1: match(" + print + ")", -1000, c.match(print, print));
            CHECK.due("promise 1: lay(" + print + ")", -1000, c.lay(print, print, 0, 0, 0));
        }
    }

    private static void promise1NoTools() {
        MarkCabinet c = new MarkCabinet();
        for (int tool = 0; tool <= 9; tool++) {
            CHECK.due("promise 1: flaws(" + tool + ")", -4, c.flaws(tool));
            CHECK.due("promise 1: flaw(" + tool + ", 0, 0)", -4, c.flaw(tool, 0, 0));
            CHECK.due("promise 1: flaw(" + tool + ", 0, 1)", -4, c.flaw(tool, 0, 1));
        }
        CHECK.due("promise 1: melt(0, 9)", 0, c.melt(0, 9));
        CHECK.due("promise 1: strangers: how many", 0, c.strangers(Integer.MIN_VALUE, 0));
        CHECK.due("promise 1: strangers: of how many", 0, c.strangers(Integer.MIN_VALUE, 1));
    }

    private static void promise1ObjectsShareNothing() {
        MarkCabinet used = new MarkCabinet();
        MarkCabinet other = new MarkCabinet();
        int p = Draw.islands(used, Draw.WHOLE, at(3, 3));
        used.reach(3);
        used.keep(0, p, 5);
        used.match(p, p);
        MarkCabinet later = new MarkCabinet();
        for (MarkCabinet c : new MarkCabinet[] {other, later}) {
            for (int what = 0; what <= 3; what++) {
                CHECK.due("promise 1: another object's count(" + what + ")", 0, c.count(what));
            }
            CHECK.due("promise 1: another object's told(6)", -1000, c.told(6));
            CHECK.due("promise 1: another object's REACH", 1, c.reach(1));
        }
    }

    private static void promise2FirstAndLastRow() {
        MarkCabinet c = new MarkCabinet();
        CHECK.due("promise 2: feed(0, 1)", 1, c.feed(0, 1));
        CHECK.due("promise 2: feed(15, 3)", 3, c.feed(15, 3));
        CHECK.refuses("promise 2: feed(#, 7)", -1, 0, 15, y -> c.feed(y, 7));
        CHECK.due("promise 2: row(0)", 1, c.row(0));
        CHECK.due("promise 2: row(15)", 3, c.row(15));
        for (int y = 1; y < 15; y++) {
            CHECK.due("promise 2: row(" + y + ")", 0, c.row(y));
        }
    }

    private static void promise2LeastAndGreatestBits() {
        MarkCabinet c = new MarkCabinet();
        CHECK.due("promise 2: feed(4, 65535)", 16, c.feed(4, 65535));
        CHECK.refuses("promise 2: feed(4, #)", -1, 0, 65535, bits -> c.feed(4, bits));
        CHECK.due("promise 2: row(4)", 65535, c.row(4));
        CHECK.due("promise 2: feed(4, 0)", 0, c.feed(4, 0));
        CHECK.refuses("promise 2: feed(4, #)", -1, 0, 65535, bits -> c.feed(4, bits));
        CHECK.due("promise 2: row(4)", 0, c.row(4));
        CHECK.due("promise 2: neither is as said", -1, c.feed(16, 65536));
        CHECK.due("promise 2: feed(4, 1)", 1, c.feed(4, 1));
        CHECK.due("promise 2: feed(4, 65534)", 15, c.feed(4, 65534));
    }

    // "the highest the leftmost one"
    private static void promise2EachCell() {
        for (int y = 0; y < 16; y += 15) {
            MarkCabinet c = new MarkCabinet();
            for (int x = 0; x < 16; x++) {
                CHECK.due("promise 2: a cell alone", 1, c.feed(y, 1 << 15 - x));
                CHECK.due("promise 2: the row of it", 1 << 15 - x, c.row(y));
                CHECK.points("promise 2: cell " + x, c, c.print(Draw.WHOLE), new int[] {x, y, 0});
            }
        }
    }

    private static void promise2FromNoneToAllAndBack() {
        MarkCabinet c = new MarkCabinet();
        for (int y = 0; y < 16; y++) {
            CHECK.due("promise 2: row " + y + " becomes DARK", 16 * y + 16, c.feed(y, 65535));
        }
        for (int y = 0; y < 16; y++) {
            CHECK.due("promise 2: row " + y + " is DARK already", 256, c.feed(y, 65535));
        }
        for (int y = 0; y < 16; y++) {
            CHECK.due("promise 2: row " + y + " is not DARK any more", 240 - 16 * y, c.feed(y, 0));
        }
    }

    private static void promise2RefusedChangesNothing() {
        MarkCabinet c = dark();
        CHECK.refuses("promise 2: feed(#, 0)", -1, 0, 15, y -> c.feed(y, 0));
        CHECK.refuses("promise 2: feed(0, #)", -1, 0, 65535, bits -> c.feed(0, bits));
        CHECK.refuses("promise 2: feed(15, #)", -1, 0, 65535, bits -> c.feed(15, bits));
        CHECK.due("promise 2: all are DARK still", 256, c.count(2));
        for (int y = 0; y < 16; y++) {
            CHECK.due("promise 2: row(" + y + ")", 65535, c.row(y));
        }
    }

    private static void promise3FirstAndLastRow() {
        MarkCabinet c = new MarkCabinet();
        for (int y = 0; y < 16; y++) {
            c.feed(y, 4096 + y);
        }
        CHECK.refuses("promise 3: row(#)", -1, 0, 15, c::row);
        for (int y = 0; y < 16; y++) {
            CHECK.due("promise 3: row(" + y + ")", 4096 + y, c.row(y));
        }
        c.feed(0, 65535);
        c.feed(15, 0);
        CHECK.due("promise 3: the greatest", 65535, c.row(0));
        CHECK.due("promise 3: the least", 0, c.row(15));
    }

    private static void promise4WithoutDark() {
        stays("a grid without DARK cells", new MarkCabinet());
    }

    private static void promise4DarkAlone() {
        String[] last = new String[16];
        Arrays.fill(last, "");
        last[15] = "################";
        thins("DARK cells alone", dark(), 240, last);
    }

    // "it has two or more DARK NEIGHBOURS"
    private static void promise4FewestNeighbours() {
        for (int[] corner : CORNERS) {
            stays("a cell in a corner has none", cells(corner));
        }
        stays("cells at the edges have none", cells(at(7, 0), at(0, 7), at(15, 7), at(7, 15)));
        stays("two cells have one each", cells(at(0, 0), at(1, 0)));
        stays("two cells aslant have one each", cells(at(15, 14), at(14, 15)));
        thins("of three that touch the first has two and goes", cells(at(5, 5), at(6, 5), at(6, 6)), 1,
            "", "", "", "", "", "......#", "......#");
        thins("in the first corner", cells(at(0, 0), at(1, 0), at(0, 1)), 1, ".#", "#");
        thins("in the last corner", cells(at(14, 15), at(15, 14), at(15, 15)), 1,
            "", "", "", "", "", "", "", "", "", "", "", "", "", "", "", "..............##");
    }

    // "its DARK NEIGHBOURS hang together"
    private static void promise4NeighboursApart() {
        stays("two that are opposite", grid("", ".###"));
        stays("two that are opposite, upright", grid("", ".#", ".#", ".#"));
        stays("two that are opposite, aslant", grid("#", ".#", "..#"));
        stays("a SIDE and a corner beyond it", grid("", "##", "..#"));
        stays("two corners of one side", grid("#.#", ".#"));
        stays("four corners", grid("#.#", ".#.", "#.#"));
        thins("a SIDE and the corner beside it", grid("##", ".#"), 1, ".#", ".#");
        thins("a SIDE and the corner beside it, to the left", grid("#", ".#", ".##", "#"), 1, "#", ".#", ".#", "#");
    }

    // "some SIDE is not DARK"
    private static void promise4AllSidesDark() {
        stays("a cross in the first corner", grid("..#..", "..#..", "#####", "..#..", "..#.."));
        stays("a cross in the last corner", cells(at(13, 11), at(13, 12), at(13, 13), at(13, 14), at(13, 15),
            at(11, 13), at(12, 13), at(14, 13), at(15, 13)));
        thins("three SIDES are DARK", grid("", ".#####", "...#..", "...#.."), 1, "", ".##.##", "...#..", "...#..");
        // outside of the grid nothing is DARK, so that a cell at the edge has a SIDE that is not
        thins("at the upper edge", grid("#####", "..#..", "..#.."), 1, "##.##", "..#..", "..#..");
        thins("at the left edge", grid("#", "#", "###", "#", "#"), 1, "#", "#", ".##", "#", "#");
        MarkCabinet c = cells(at(15, 3), at(15, 4), at(15, 5), at(15, 6), at(15, 7), at(14, 5), at(13, 5));
        CHECK.due("promise 4: at the right edge", 1, c.thin());
        CHECK.due("promise 4: the one at the edge went", 0x0006, c.row(5));
        c = cells(at(3, 15), at(4, 15), at(5, 15), at(6, 15), at(7, 15), at(5, 14), at(5, 13));
        CHECK.due("promise 4: at the lower edge", 1, c.thin());
        CHECK.due("promise 4: the one at the edge went", Draw.bits("...##.##"), c.row(15));
    }

    private static void promise4LinesAlongTheEdges() {
        for (int y = 0; y < 16; y += 15) {
            MarkCabinet c = new MarkCabinet();
            c.feed(y, 65535);
            stays("a line in row " + y, c);
        }
        for (int bit = 1; bit <= 0x8000; bit *= 0x8000) {
            MarkCabinet c = new MarkCabinet();
            Draw.rows(c, bit);
            stays("a line in a column, bit " + bit, c);
        }
    }

    private static void promise4Frame() {
        MarkCabinet c = new MarkCabinet();
        Draw.rows(c, 0x8001);
        c.feed(0, 65535);
        c.feed(15, 65535);
        CHECK.due("promise 4: the frame's corners go", 4, c.thin());
        CHECK.due("promise 4: its first row", 0x7FFE, c.row(0));
        CHECK.due("promise 4: its second row", 0x8001, c.row(1));
        CHECK.due("promise 4: its last row but one", 0x8001, c.row(14));
        CHECK.due("promise 4: its last row", 0x7FFE, c.row(15));
        CHECK.due("promise 4: its hole", 1, c.pieces(1));
    }

    private static void promise4SquaresInTheCorners() {
        MarkCabinet c = new MarkCabinet();
        int[] rows = {0, 1, 14, 15};
        for (int y : rows) {
            c.feed(y, 0xC003);
        }
        CHECK.due("promise 4: squares in the corners", 8, c.thin());
        for (int y : rows) {
            CHECK.due("promise 4: their row " + y, y == 1 || y == 15 ? 0xC003 : 0, c.row(y));
        }
    }

    /** Cells at opposite edges would go, or hang together, if a row went on in itself or in the next one. */
    private static void promise4NothingWrapsAround() {
        stays("at the left and at the right edge", cells(at(0, 7), at(0, 8), at(15, 7), at(15, 8)));
        stays("a row's last cell and the next row's first one", cells(at(14, 6), at(15, 6), at(0, 7), at(1, 7)));
        stays("in the first and in the last row", cells(at(7, 0), at(8, 0), at(7, 15), at(8, 15)));
        stays("in all corners", cells(CORNERS));
    }

    // "GOES (at once)", "row by row from the top, from the left on"
    private static void promise4GoesAtOnce() {
        thins("two rows: the upper one goes", grid("", ".####", ".####"), 4, "", "", ".####");
        thins("two columns: they go from the top on", grid(".##", ".##", ".##", ".##"), 6, "", "", "", ".##");
        thins("a square: its upper row goes", grid("", "", "....##", "....##"), 2, "", "", "", "....##");
    }

    // "Sweeps go on till one takes nothing away."
    private static void promise4ManySweeps() {
        // a slanting band of which each sweep takes some: the 26th takes nothing away
        MarkCabinet c = grid("#############.#.", "#.##.#.#.#....##", ".####.#..##.....", "..####.#.#....##",
            ".#.####.####..#.", "###.####.#...#..", "####.####.#..##.", "#..##.####.####.",
            "#..###.####.##.#", "##.##.#.####.#..", "#.#.#.##.####.##", "..##....#.####.#",
            ".###.##.##.####.", ".##.#..#.##.####", "##.#.#..#.##.##.", "##..#..#.####..#");
        int pieces = c.pieces(0);
        int holes = c.pieces(1);
        CHECK.due("promise 4: 26 sweeps", 55, c.thin());
        CHECK.due("promise 4: 26 sweeps: again", 0, c.thin());
        CHECK.due("promise 4: 26 sweeps: pieces as before", pieces, c.pieces(0));
        CHECK.due("promise 4: 26 sweeps: holes as before", holes, c.pieces(1));
    }

    private static void promise5WithoutDarkAndDarkAlone() {
        hasPieces("a grid without DARK cells", new MarkCabinet(), 0, 0);
        hasPieces("DARK cells alone", dark(), 1, 0);
    }

    // "but that which comes to the outside"
    private static void promise5OneCellIsNotDark() {
        for (int y = 0; y < 16; y++) {
            for (int x = 0; x < 16; x++) {
                MarkCabinet c = dark();
                c.feed(y, 65535 ^ 0x8000 >> x);
                boolean atEdge = x == 0 || x == 15 || y == 0 || y == 15;
                hasPieces("all but " + x + ", " + y, c, 1, atEdge ? 0 : 1);
            }
        }
    }

    private static void promise5HolesByTheEdge() {
        MarkCabinet c = dark();
        c.feed(0, 0x7FFF);
        c.feed(1, 0xBFFF);
        hasPieces("a cell that comes to the outside by a corner alone", c, 1, 1);
        c.feed(0, 0xBFFF);
        hasPieces("a cell that comes to the outside by a SIDE", c, 1, 0);
        Draw.rows(c, 0x8001);
        c.feed(0, 65535);
        c.feed(15, 65535);
        hasPieces("a frame along the edges", c, 1, 1);
        c.feed(15, 0xFFFE);
        hasPieces("a frame without its last corner", c, 1, 1);
        c.feed(15, 0xFFFD);
        hasPieces("a frame with a gap", c, 1, 0);
        hasPieces("a corner that is shut off", grid(".#", "#"), 1, 0);
        hasPieces("an edge that is shut off", grid(".###", ".#.#", ".###"), 1, 1);
        hasPieces("a bowl on the edge", grid(".#.#", ".###"), 1, 0);
    }

    private static void promise5CornersOfCells() {
        hasPieces("two cells that share an edge", grid("", ".##"), 1, 0);
        hasPieces("two cells that share a corner", grid("", ".#", "..#"), 1, 0);
        hasPieces("two cells that share the other corner", grid("", "..#", ".#"), 1, 0);
        hasPieces("two cells that are apart", grid("", ".#.#"), 2, 0);
        hasPieces("two cells a knight's move apart", grid("", ".#", "...#"), 2, 0);
        hasPieces("two holes that share a corner", grid("####", "#.##", "##.#", "####"), 1, 2);
        hasPieces("a hole of two cells", grid("####", "#..#", "####"), 1, 1);
        hasPieces("a hole shut by corners", grid(".#.", "#.#", ".#."), 1, 1);
        hasPieces("a piece in a hole", grid("#####", "#...#", "#.#.#", "#...#", "#####"), 2, 1);
        hasPieces("a hole in a piece in a hole", grid("#######", "#.....#", "#.###.#", "#.#.#.#", "#.###.#", "#.....#",
            "#######"), 2, 2);
    }

    private static void promise5Most() {
        MarkCabinet c = new MarkCabinet();
        for (int y = 0; y < 16; y += 2) {
            c.feed(y, 0x5555);
        }
        hasPieces("the most pieces", c, 64, 0);
        for (int y = 0; y < 16; y++) {
            c.feed(y, y % 2 == 0 ? 0xAAAA : 0x5555);
        }
        hasPieces("the most holes", c, 1, 98);
        for (int y = 0; y < 16; y++) {
            c.feed(y, y % 2 == 0 ? 0x5555 : 0xAAAA);
        }
        hasPieces("the other chequer", c, 1, 98);
    }

    private static void promise5LongestWalk() {
        MarkCabinet c = grid("################", "...............#", "##############.#", "#............#.#",
            "#.##########.#.#", "#.#........#.#.#", "#.#.######.#.#.#", "#.#.#....#.#.#.#", "#.#.#.#..#.#.#.#",
            "#.#.#.####.#.#.#", "#.#.#......#.#.#", "#.#.########.#.#", "#.#..........#.#", "#.############.#",
            "#..............#", "################");
        hasPieces("a spiral", c, 1, 0);
        c.feed(1, 0x8001);
        hasPieces("a spiral that is shut", c, 1, 1);
        c.feed(1, 0x4001);
        hasPieces("a spiral that is shut further in", c, 1, 1);
        c.feed(1, 0x0001);
        c.feed(2, 0xFFF5);
        hasPieces("a spiral in two", c, 2, 0);
    }

    private static void promise5NothingWrapsAround() {
        hasPieces("the left and the right edge", cells(at(0, 5), at(15, 5)), 2, 0);
        hasPieces("a row's last cell and the next row's first one", cells(at(15, 5), at(0, 6)), 2, 0);
        hasPieces("the first and the last row", cells(at(5, 0), at(5, 15)), 2, 0);
        hasPieces("all corners", cells(CORNERS), 4, 0);
    }

    private static void promise5OtherWhat() {
        MarkCabinet c = grid("", ".###", ".#.#", ".###");
        CHECK.refuses("promise 5: pieces(#)", -1, 0, 1, c::pieces);
        hasPieces("a ring behind refusals", c, 1, 1);
        CHECK.due("promise 5: the grid stays", Draw.bits(".#.#"), c.row(2));
    }

    private static void promise23DarkCells() {
        CHECK.due("promise 23: no DARK cells", 0, new MarkCabinet().count(2));
        CHECK.due("promise 23: DARK cells alone", 256, dark().count(2));
        for (int[] corner : CORNERS) {
            CHECK.due("promise 23: a corner", 1, cells(corner).count(2));
        }
        MarkCabinet c = dark();
        c.thin();
        CHECK.due("promise 23: thinned", 16, c.count(2));
    }

    private static void promise23PointsInTheCorners() {
        MarkCabinet c = cells(CORNERS);
        CHECK.due("promise 23: ISLANDS in the corners", 4, c.count(3));
        CHECK.points("ISLANDS in the corners", c, c.print(Draw.WHOLE),
            new int[] {0, 0, 0}, new int[] {15, 0, 0}, new int[] {0, 15, 0}, new int[] {15, 15, 0});
        c = cells(at(0, 0), at(0, 1), at(14, 0), at(15, 0), at(0, 15), at(1, 14), at(15, 14), at(15, 15));
        CHECK.due("promise 23: ENDS in the corners", 8, c.count(3));
        CHECK.points("ENDS in the corners", c, c.print(Draw.WHOLE),
            new int[] {0, 0, 1}, new int[] {14, 0, 1}, new int[] {15, 0, 1}, new int[] {0, 1, 1}, new int[] {1, 14, 1},
            new int[] {15, 14, 1}, new int[] {0, 15, 1}, new int[] {15, 15, 1});
        CHECK.due("promise 23: none without DARK cells", 0, new MarkCabinet().count(3));
    }

    private static void promise23ForksInTheCorners() {
        MarkCabinet c = new MarkCabinet();
        for (int y : new int[] {0, 1, 14, 15}) {
            c.feed(y, 0xC003);
        }
        CHECK.due("promise 23: FORKS in the corners", 4, c.count(3));
        CHECK.points("FORKS in the corners", c, c.print(Draw.WHOLE),
            new int[] {0, 0, 2}, new int[] {14, 0, 2}, new int[] {0, 14, 2}, new int[] {14, 14, 2});
        c = cells(at(15, 14), at(14, 15), at(15, 15));
        CHECK.due("promise 23: three that touch have two NEIGHBOURS each", 0, c.count(3));
    }

    // "without DARK NEIGHBOURS", "with one", "with three or more"
    private static void promise23TwoAndThreeNeighbours() {
        String[][] around = {{"...", ".#.", "..."}, {"...", "##.", "..."}, {"...", "###", "..."}, {"#.#", ".#.", "#.."},
            {"#.#", ".#.", "#.#"}, {"#.#", "##.", "#.#"}, {"###", "###", "#.#"}, {"###", "###", "##."},
            {"###", "###", "###"}};
        // the middle one with 0 to 8 DARK NEIGHBOURS; from five on these are FORKS themselves
        int[] middle = {0, 1, -1, 2, 2, -1, -1, -1, -1};
        for (int n = 0; n < around.length; n++) {
            MarkCabinet c = grid(around[n]);
            int print = c.print(Draw.WHOLE);
            int kind = -1;
            for (int i = 0; i < c.point(print, -1); i++) {
                if (c.point(print, 3 * i) == 1 && c.point(print, 3 * i + 1) == 1) {
                    kind = c.point(print, 3 * i + 2);
                }
            }
            CHECK.due("promise 23: " + n + " DARK NEIGHBOURS", middle[n], kind);
        }
    }

    // "no NEIGHBOUR ahead of it (by rows) is a FORK by this same rule"
    private static void promise23ForksAheadAndBehind() {
        MarkCabinet c = grid("####", "####");
        CHECK.points("promise 23: one that is no FORK does not stand in the way", c, c.print(Draw.WHOLE),
            new int[] {0, 0, 2}, new int[] {2, 0, 2});
        c = grid("##", "##", "##", "##");
        CHECK.points("promise 23: nor above", c, c.print(Draw.WHOLE), new int[] {0, 0, 2}, new int[] {0, 2, 2});
        c = grid(".#.", "#.#", ".#.", "#");
        CHECK.points("promise 23: a FORK beside ENDS", c, c.print(Draw.WHOLE),
            new int[] {1, 2, 2}, new int[] {0, 3, 1});
        // of two that touch, each with three NEIGHBOURS, the upper one, or the left one
        c = grid("#.#", ".#", "..#", ".#.#");
        CHECK.points("promise 23: ahead by a corner above to the left", c, c.print(Draw.WHOLE),
            new int[] {0, 0, 1}, new int[] {2, 0, 1}, new int[] {1, 1, 2}, new int[] {1, 3, 1}, new int[] {3, 3, 1});
        c = grid(".#.#", "..#", ".#", "#.#");
        CHECK.points("promise 23: ahead by a corner above to the right", c, c.print(Draw.WHOLE),
            new int[] {1, 0, 1}, new int[] {3, 0, 1}, new int[] {2, 1, 2}, new int[] {0, 3, 1}, new int[] {2, 3, 1});
        c = grid("#.#", ".#", ".#", "#.#");
        CHECK.points("promise 23: ahead just above", c, c.print(Draw.WHOLE),
            new int[] {0, 0, 1}, new int[] {2, 0, 1}, new int[] {1, 1, 2}, new int[] {0, 3, 1}, new int[] {2, 3, 1});
        c = grid("#..#", ".##", "#..#");
        CHECK.points("promise 23: ahead to the left", c, c.print(Draw.WHOLE),
            new int[] {0, 0, 1}, new int[] {3, 0, 1}, new int[] {1, 1, 2}, new int[] {0, 2, 1}, new int[] {3, 2, 1});
        c = grid("#.#", ".#", ".#", ".#", "#.#");
        CHECK.points("promise 23: two FORKS with one between them", c, c.print(Draw.WHOLE),
            new int[] {0, 0, 1}, new int[] {2, 0, 1}, new int[] {1, 1, 2}, new int[] {1, 3, 2}, new int[] {0, 4, 1},
            new int[] {2, 4, 1});
    }

    private static void promise23NothingWrapsAround() {
        MarkCabinet c = cells(at(0, 5), at(15, 5), at(0, 9), at(15, 8));
        CHECK.due("promise 23: four ISLANDS at two edges", 4, c.count(3));
        // a FORK at the right edge is not ahead of one at the left edge of the next row
        c = cells(at(14, 4), at(15, 5), at(14, 6), at(15, 6), at(1, 5), at(0, 6), at(0, 7), at(1, 7));
        CHECK.points("promise 23: FORKS at two edges", c, c.print(Draw.WHOLE),
            new int[] {14, 4, 1}, new int[] {1, 5, 1}, new int[] {15, 5, 2}, new int[] {0, 6, 2});
        c = cells(at(7, 0), at(8, 0), at(7, 15), at(8, 15));
        CHECK.due("promise 23: ENDS in the first and the last row", 4, c.count(3));
        // a FORK in the last row was read ahead of what is read the next time
        c = cells(at(3, 14), at(4, 14), at(3, 15), at(4, 15), at(3, 0), at(4, 0), at(3, 1), at(4, 1));
        CHECK.due("promise 23: FORKS below and above", 2, c.count(3));
        CHECK.due("promise 23: read again", 2, c.count(3));
    }

    // "POINTS that THE GRID has (all)"
    private static void promise23MorePointsThanAPrintHas() {
        MarkCabinet c = new MarkCabinet();
        c.feed(0, 0xAAAA);
        c.feed(2, 0xA800);
        CHECK.due("promise 23: eleven", 11, c.count(3));
        c.feed(2, 0xAA00);
        CHECK.due("promise 23: twelve", 12, c.count(3));
        c.feed(2, 0xAA80);
        CHECK.due("promise 23: thirteen", 13, c.count(3));
        for (int y = 0; y < 16; y++) {
            c.feed(y, y % 2 == 0 ? 0 : 0x5555);
        }
        CHECK.due("promise 23: the most ISLANDS", 64, c.count(3));
        CHECK.due("promise 23: the FORKS of DARK cells alone", 64, dark().count(3));
    }

    private static void promise23OtherWhat() {
        MarkCabinet c = dark();
        CHECK.refuses("promise 23: count(#)", -1, 0, 3, c::count);
        CHECK.due("promise 23: count(2) behind refusals", 256, c.count(2));
    }
}
