/** Promises 1 to 5, and 23 as far as it tells of THE GRID. */
public final class GridTest {
    private static final Check CHECK = new Check("GridTest");

    public static void main(String[] args) {
        newObject();
        feedAndRow();
        feedRefuses();
        piecesAndHoles();
        piecesOfWholeGrid();
        thinKeepsWhatHangsTogether();
        thinBySweeps();
        thinAtTheEdges();
        pointsOfTheGrid();
        forksAheadOfForks();
        CHECK.end();
    }

    private static void newObject() {
        MarkCabinet c = new MarkCabinet();
        for (int y = 0; y < 16; y++) {
            CHECK.due("row of a new object", 0, c.row(y));
        }
        for (int what = 0; what <= 3; what++) {
            CHECK.due("count of a new object", 0, c.count(what));
        }
        CHECK.due("pieces(0) of a new object", 0, c.pieces(0));
        CHECK.due("pieces(1) of a new object", 0, c.pieces(1));
        CHECK.due("thin() of a new object", 0, c.thin());
        CHECK.due("point() of a new object", -1, c.point(0, -1));
        CHECK.due("told() of a new object", -1000, c.told(0));
        CHECK.due("pair() of a new object", -1, c.pair(0));
        CHECK.due("struck() of a new object", -1, c.struck(0));
        CHECK.due("flaws() of a new object", -4, c.flaws(0));
        CHECK.due("strangers() of a new object", 0, c.strangers(-1000, 1));
        CHECK.due("reach() of a new object", 1, c.reach(1));
    }

    private static void feedAndRow() {
        MarkCabinet c = new MarkCabinet();
        CHECK.due("feed the leftmost cell", 1, c.feed(0, 0x8000));
        CHECK.due("feed the rightmost cell", 2, c.feed(15, 1));
        CHECK.due("feed a whole row", 18, c.feed(7, 65535));
        CHECK.due("row(0)", 0x8000, c.row(0));
        CHECK.due("row(15)", 1, c.row(15));
        CHECK.due("row(7)", 65535, c.row(7));
        CHECK.due("row(8)", 0, c.row(8));
        CHECK.due("feed in another's place", 4, c.feed(7, 0x0180));
        CHECK.due("row(7) afterwards", 0x0180, c.row(7));
        CHECK.due("count(2)", 4, c.count(2));
        CHECK.due("a row without DARK cells", 2, c.feed(7, 0));
    }

    private static void feedRefuses() {
        MarkCabinet c = new MarkCabinet();
        c.feed(3, 5);
        int[] wrongRows = {-1, 16, Integer.MIN_VALUE, Integer.MAX_VALUE};
        for (int y : wrongRows) {
            CHECK.due("feed(" + y + ", 1)", -1, c.feed(y, 1));
            CHECK.due("row(" + y + ")", -1, c.row(y));
        }
        int[] wrongBits = {-1, 65536, Integer.MIN_VALUE, Integer.MAX_VALUE};
        for (int bits : wrongBits) {
            CHECK.due("feed(3, " + bits + ")", -1, c.feed(3, bits));
        }
        CHECK.due("row(3) behind refusals", 5, c.row(3));
        CHECK.due("count(2) behind refusals", 2, c.count(2));
    }

    private static void piecesAndHoles() {
        MarkCabinet c = new MarkCabinet();
        Draw.onto(c, "###.#", "#.##.#", "###..#", "......", ".#.#.", "..#..", ".#.#.");
        CHECK.due("pieces hang together by corners", 2, c.pieces(0));
        CHECK.due("a hole", 1, c.pieces(1));
        Draw.onto(c, ".##", "#..#", ".#.#", "..#");
        CHECK.due("a ring shut by corners", 1, c.pieces(0));
        CHECK.due("its hole is one by SIDES", 1, c.pieces(1));
        Draw.onto(c, "#####", "#.#.#", "##.##", "#.#.#", "#####");
        CHECK.due("holes do not hang together by corners", 5, c.pieces(1));
        Draw.onto(c, ".#..", "##..", "....");
        CHECK.due("a cell shut off by the edge comes to the outside", 0, c.pieces(1));
        Draw.onto(c, "########", "#......#", "#.####.#", "#.#..#.#", "#.####.#", "#......#", "########");
        CHECK.due("a ring in a ring: pieces", 2, c.pieces(0));
        CHECK.due("a ring in a ring: holes", 2, c.pieces(1));
        String[][] bowls = {{"...#", "#..#", ".##."}, {"#...", "#..#", ".##."}, {".##.", "#..#", "...#"}, {"#", ".#", "#"}};
        for (String[] bowl : bowls) {
            String[] picture = new String[bowl.length + 1];
            System.arraycopy(bowl, 0, picture, 0, bowl.length);
            picture[bowl.length] = "........#";
            Draw.onto(c, picture);
            CHECK.due("a bowl and a cell", 2, c.pieces(0));
        }
        Draw.onto(c, "########", "#......#", "#.####.#", "#.#..#.#", "#.####.#", "#......#", "########");
        int[] wrong = {-1, 2, Integer.MIN_VALUE, Integer.MAX_VALUE};
        for (int what : wrong) {
            CHECK.due("pieces(" + what + ")", -1, c.pieces(what));
        }
        CHECK.due("pieces() changes nothing", Draw.bits("#.#..#.#"), c.row(3));
    }

    private static void piecesOfWholeGrid() {
        MarkCabinet c = new MarkCabinet();
        for (int y = 0; y < 16; y++) {
            c.feed(y, 65535);
        }
        CHECK.due("pieces of DARK alone", 1, c.pieces(0));
        CHECK.due("holes of DARK alone", 0, c.pieces(1));
        c.feed(15, 0xFFFE);
        CHECK.due("the last corner is no hole", 0, c.pieces(1));
        for (int y = 0; y < 16; y++) {
            c.feed(y, y % 2 == 0 ? 0xAAAA : 0);
        }
        CHECK.due("cells apart", 64, c.pieces(0));
        for (int y = 0; y < 16; y++) {
            c.feed(y, y % 2 == 0 ? 0xAAAA : 0x5555);
        }
        CHECK.due("a chequer by corners", 1, c.pieces(0));
        CHECK.due("holes of a chequer", 98, c.pieces(1));
    }

    private static void thinKeepsWhatHangsTogether() {
        MarkCabinet c = new MarkCabinet();
        Draw.onto(c, "", ".#####", ".#####", ".##.##", ".#####", ".#####");
        CHECK.due("thin a thick ring", 16, c.thin());
        CHECK.due("its piece", 1, c.pieces(0));
        CHECK.due("its hole", 1, c.pieces(1));
        CHECK.due("thin again", 0, c.thin());
        Draw.onto(c, "#####");
        CHECK.due("a line is thin", 0, c.thin());
        Draw.onto(c, "..#..", "..#..", "#####", "..#..", "..#..");
        CHECK.due("a cross is thin: its middle has no SIDE that is not DARK", 0, c.thin());
        Draw.onto(c, "##");
        CHECK.due("two cells are thin: one DARK NEIGHBOUR is not enough", 0, c.thin());
        Draw.onto(c, "#.#", ".#.", "#.#");
        CHECK.due("an X is thin: the NEIGHBOURS of its middle are apart", 0, c.thin());
        Draw.onto(c, "..#", "..#", "###");
        CHECK.due("a bend goes: its two NEIGHBOURS touch by a corner", 1, c.thin());
        CHECK.due("the bend's upper part", Draw.bits("..#"), c.row(1));
        CHECK.due("the bend's lower part", Draw.bits("##."), c.row(2));
        Draw.onto(c, ".#", "##");
        CHECK.due("the first of three goes", 1, c.thin());
        CHECK.due("the two others stay", Draw.bits("##"), c.row(1));
    }

    private static void thinBySweeps() {
        MarkCabinet c = new MarkCabinet();
        Draw.onto(c, "", ".##", ".##");
        CHECK.due("a square", 2, c.thin());
        CHECK.due("the square's upper row", 0, c.row(1));
        CHECK.due("the square's lower row", Draw.bits(".##"), c.row(2));
        Draw.onto(c, "", ".###", ".###", ".###");
        CHECK.due("cells go at once, row by row", 6, c.thin());
        CHECK.due("what is left of nine", Draw.bits(".###"), c.row(3));
        // the middle has no SIDE that is not DARK till the first sweep has gone past it
        Draw.onto(c, ".#..", "#.#.", ".###", "..#.");
        CHECK.due("a second sweep takes one more", 3, c.thin());
        CHECK.due("what it leaves", Draw.bits(".#.."), c.row(2));
        CHECK.due("the ring is there still", 1, c.pieces(1));
    }

    private static void thinAtTheEdges() {
        MarkCabinet c = new MarkCabinet();
        Draw.onto(c, "##", "##");
        CHECK.due("a square in the corner", 2, c.thin());
        CHECK.due("the corner's lower row", Draw.bits("##"), c.row(1));
        for (int y = 0; y < 16; y++) {
            c.feed(y, 3);
        }
        CHECK.due("two columns at the right edge go from their top on", 30, c.thin());
        CHECK.due("the columns' last row", 3, c.row(15));
        Draw.onto(c, "#", "#", "#", "##", "##", "#", "#");
        CHECK.due("a column at the left edge", 2, c.thin());
        CHECK.due("its end at the top", 0x8000, c.row(0));
        for (int y = 0; y < 16; y++) {
            c.feed(y, 65535);
        }
        CHECK.due("DARK cells alone", 240, c.thin());
        CHECK.due("the last row stays", 65535, c.row(15));
    }

    private static void pointsOfTheGrid() {
        MarkCabinet c = new MarkCabinet();
        Draw.onto(c, "#...###..#..#..", "", "......#........", ".....#.#.......", "....#...#......", ".........#.....",
            "........#.#....");
        CHECK.due("islands, ends and a fork", 9, c.count(3));
        CHECK.due("print of these", 0, c.print(Draw.WHOLE));
        int[][] due = {{0, 0, 0}, {4, 0, 1}, {6, 0, 1}, {9, 0, 0}, {12, 0, 0}, {4, 4, 1}, {9, 5, 2}, {8, 6, 1}, {10, 6, 1}};
        for (int i = 0; i < due.length; i++) {
            for (int k = 0; k < 3; k++) {
                CHECK.due("point(0, " + (3 * i + k) + ")", due[i][k], c.point(0, 3 * i + k));
            }
        }
        CHECK.due("cells with two NEIGHBOURS are none", 9, c.point(0, -1));
        int[] wrong = {-1, 4, Integer.MIN_VALUE, Integer.MAX_VALUE};
        for (int what : wrong) {
            CHECK.due("count(" + what + ")", -1, c.count(what));
        }
    }

    private static void forksAheadOfForks() {
        MarkCabinet c = new MarkCabinet();
        Draw.onto(c, "..#..", "..#..", "#####", "..#..", "..#..");
        // all of the cross's inner cells have three NEIGHBOURS or more: the first one is the FORK, and the
        // last one is none of its NEIGHBOURS
        CHECK.due("POINTS of a cross", 6, c.count(3));
        c.print(Draw.WHOLE);
        CHECK.due("the upper FORK's column", 2, c.point(0, 3));
        CHECK.due("the upper FORK's row", 1, c.point(0, 4));
        CHECK.due("the upper FORK's KIND", 2, c.point(0, 5));
        for (int y = 0; y < 16; y++) {
            c.feed(y, 65535);
        }
        CHECK.due("FORKS of DARK alone", 64, c.count(3));
        Draw.onto(c, "#####", "#####");
        CHECK.due("FORKS of two rows: columns 0, 2 and 4", 3, c.count(3));
        c.feed(0, 3);
        c.feed(1, 3);
        CHECK.due("a FORK beside the right edge", 1, c.count(3));
        c.feed(0, 2);
        c.feed(1, 1);
        c.feed(2, 3);
        c.print(Draw.WHOLE);
        CHECK.due("an END and a FORK", 2, c.point(1, -1));
        CHECK.due("one at the right edge: its column", 15, c.point(1, 3));
        CHECK.due("its row", 1, c.point(1, 4));
        CHECK.due("its KIND", 2, c.point(1, 5));
        Draw.onto(c);
        c.feed(0, 5);
        c.feed(1, 2);
        c.feed(2, 5);
        CHECK.due("an X in the corner", 5, c.count(3));
        c.feed(0, 7);
        c.feed(1, 3);
        c.feed(2, 0);
        CHECK.due("of four with three NEIGHBOURS or more the first is a FORK", 1, c.count(3));
    }
}
