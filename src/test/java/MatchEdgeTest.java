/** The boundary cases of promises 9 to 12: lay, match, told, pair. */
public final class MatchEdgeTest {
    private static final Check CHECK = new Check("MatchEdgeTest");
    // each one comes to the next one by a quarter turn
    private static final int[][] CORNERS = {{0, 0}, {15, 0}, {15, 15}, {0, 15}};

    public static void main(String[] args) {
        promise9FirstAndLastPrint();
        promise9LeastAndGreatestTurn();
        promise9LeastAndGreatestShift();
        promise9CornersAreTurned();
        promise9PartsAreTurned();
        promise9EachKind();
        promise9EachReach();
        promise9EachReachBesideTheGrid();
        promise9PartsBesideTheGrid();
        promise9LeastAndGreatestScore();
        promise9BareIsZeroAtLeast();
        promise9WithoutPoints();
        promise9RefusedChangesNothing();
        promise10FirstAndLastPrint();
        promise10LeastAndGreatestShift();
        promise10LeastTurnOfSeveral();
        promise10LeastRowsOfSeveral();
        promise10LeastColumnsOfSeveral();
        promise10JustOnOneAlone();
        promise10EachReach();
        promise10WithItself();
        promise10NoLaying();
        promise10RefusedChangesNothing();
        promise11LeastAndGreatestWhat();
        promise11BeforeAny();
        promise11TheLatestOne();
        promise11ScoreOfZero();
        promise12BeforeAny();
        promise12FirstAndLastPoint();
        promise12TwelfthPoint();
        promise12LesserPointOfB();
        promise12NoneIsGreaterThanAll();
        promise12MostPairsGoFirst();
        promise12LongestChain();
        promise12OldPairsAreGone();
        CHECK.end();
    }

    private static int[] at(int x, int y) {
        return Draw.at(x, y);
    }

    /** Twelve ISLANDS, the first print, and twelve ENDS, the second one. */
    private static MarkCabinet twelveAndTwelve() {
        MarkCabinet c = new MarkCabinet();
        Draw.onto(c, "", "#.#.#.#.#.#.#.#.", "", "", "#.#.#.#.");
        c.print(Draw.WHOLE);
        Draw.onto(c, "", "##.##.##.##.##", "", "", "##");
        c.print(Draw.WHOLE);
        return c;
    }

    private static void promise9FirstAndLastPrint() {
        MarkCabinet empty = new MarkCabinet();
        CHECK.refuses("promise 9: lay(#, #) in an empty cabinet", -1000, 1, -1, p -> empty.lay(p, p, 0, 0, 0));
        MarkCabinet c = Draw.ofIslands(2);
        CHECK.due("promise 9: lay(0, 1)", 10, c.lay(0, 1, 0, 0, 0));
        CHECK.due("promise 9: lay(1, 0)", 10, c.lay(1, 0, 0, 0, 0));
        CHECK.refuses("promise 9: lay(#, 0)", -1000, 0, 1, p -> c.lay(p, 0, 0, 0, 0));
        CHECK.refuses("promise 9: lay(0, #)", -1000, 0, 1, p -> c.lay(0, p, 0, 0, 0));
        MarkCabinet full = Draw.ofIslands(24);
        CHECK.due("promise 9: lay(23, 0)", 10, full.lay(23, 0, 0, 0, 0));
        CHECK.due("promise 9: lay(0, 23)", 10, full.lay(0, 23, 0, 0, 0));
        CHECK.refuses("promise 9: lay(#, 23)", -1000, 0, 23, p -> full.lay(p, 23, 0, 0, 0));
        CHECK.refuses("promise 9: lay(23, #)", -1000, 0, 23, p -> full.lay(23, p, 0, 0, 0));
    }

    private static void promise9LeastAndGreatestTurn() {
        MarkCabinet c = Draw.ofIslands(1);
        c.reach(0);
        // (7, 7) comes to (8, 7), (8, 8), (7, 8)
        int[] dx = {0, -1, -1, 0};
        int[] dy = {0, 0, -1, -1};
        for (int q = 0; q <= 3; q++) {
            CHECK.due("promise 9: the TURN " + q, 10, c.lay(0, 0, q, dx[q], dy[q]));
            CHECK.due("promise 9: told(3)", q, c.told(3));
        }
        CHECK.refuses("promise 9: lay(0, 0, #)", -1000, 0, 3, q -> c.lay(0, 0, q, 0, 0));
    }

    // "dx, dy -30 .. 30"
    private static void promise9LeastAndGreatestShift() {
        MarkCabinet c = Draw.ofIslands(1);
        for (int shift = -30; shift <= 30; shift++) {
            // of (7, 7) there are 7 cells to the left and 8 to the right: by 8 one POINT still lies in the other's part
            int far = Math.abs(shift);
            int due = far <= 1 ? 10 : far <= 7 ? -6 : far == 8 ? -3 : 0;
            CHECK.due("promise 9: dx " + shift, due, c.lay(0, 0, 0, shift, 0));
            CHECK.due("promise 9: told(4)", shift, c.told(4));
            CHECK.due("promise 9: dy " + shift, due, c.lay(0, 0, 0, 0, shift));
            CHECK.due("promise 9: told(5)", shift, c.told(5));
        }
        CHECK.refuses("promise 9: lay(.., #, 0)", -1000, -30, 30, dx -> c.lay(0, 0, 0, dx, 0));
        CHECK.refuses("promise 9: lay(.., 0, #)", -1000, -30, 30, dy -> c.lay(0, 0, 0, 0, dy));
        CHECK.due("promise 9: all at the most", 0, c.lay(0, 0, 3, 30, 30));
        CHECK.due("promise 9: all at the least", 0, c.lay(0, 0, 0, -30, -30));
        CHECK.told("promise 9: all at the least", c, 0, 0, 0, 0, -30, -30, 1);
    }

    // "q times (15 - y, x)"
    private static void promise9CornersAreTurned() {
        MarkCabinet c = new MarkCabinet();
        c.reach(0);
        int[] points = new int[4];
        int[] parts = new int[4];
        for (int k = 0; k < 4; k++) {
            int x = CORNERS[k][0];
            int y = CORNERS[k][1];
            points[k] = Draw.islands(c, Draw.WHOLE, CORNERS[k]);
            parts[k] = Draw.nothing(c, x * 0x1010 + y * 0x0101);
        }
        for (int from = 0; from < 4; from++) {
            for (int q = 0; q <= 3; q++) {
                for (int to = 0; to < 4; to++) {
                    boolean same = (from + q) % 4 == to;
                    String of = "promise 9: corner " + from + " by " + q + " on " + to;
                    CHECK.due(of, same ? 10 : -6, c.lay(points[from], points[to], q, 0, 0));
                    CHECK.due(of + ", a part", same ? -3 : 0, c.lay(parts[from], points[to], q, 0, 0));
                    CHECK.due(of + ", on a part", same ? -3 : 0, c.lay(points[from], parts[to], q, 0, 0));
                }
            }
        }
    }

    // "the STRUCK part's four corners (it is the part between them)"
    private static void promise9PartsAreTurned() {
        MarkCabinet c = new MarkCabinet();
        // columns 2 to 4, rows 3 to 8, and where they come to by each TURN: x0, x1, y0, y1
        int part = Draw.nothing(c, 0x2348);
        int[][] turned = {{2, 4, 3, 8}, {7, 12, 2, 4}, {11, 13, 7, 12}, {3, 8, 11, 13}};
        int point = Draw.islands(c, Draw.WHOLE, at(8, 8));
        for (int q = 0; q <= 3; q++) {
            int[] t = turned[q];
            for (int y = t[2] - 1; y <= t[3] + 1; y++) {
                for (int x = t[0] - 1; x <= t[1] + 1; x++) {
                    boolean inside = x >= t[0] && x <= t[1] && y >= t[2] && y <= t[3];
                    CHECK.due("promise 9: TURN " + q + ": " + x + ", " + y, inside ? -3 : 0,
                        c.lay(part, point, q, 8 - x, 8 - y));
                }
            }
        }
    }

    // "if they are of one KIND"
    private static void promise9EachKind() {
        MarkCabinet c = new MarkCabinet();
        // of each KIND one POINT, or two of the ENDS, and the first of them at the same place
        String[][] pictures = {{"", ".#"}, {"", ".##"}, {"", ".##", ".##"}};
        int[] prints = new int[3];
        for (int kind = 0; kind < 3; kind++) {
            Draw.onto(c, pictures[kind]);
            prints[kind] = c.print(Draw.WHOLE);
            CHECK.due("promise 7: the KIND of the first", kind, c.point(prints[kind], 2));
        }
        // each one behind each other one: nothing of an earlier LAYING must be left
        for (int k = 0; k < 27; k++) {
            int a = prints[k % 3];
            int b = prints[k / 3 % 3];
            c.lay(prints[k / 9], prints[k / 9], 0, 0, 0);
            c.lay(a, b, 0, 0, 0);
            CHECK.due("promise 9: KIND " + k % 3 + " on " + k / 3 % 3, a != b ? 0 : k % 3 == 1 ? 2 : 1, c.told(0));
            CHECK.due("promise 12: KIND " + k % 3 + " on " + k / 3 % 3, a != b ? -1 : 0, c.pair(0));
        }
    }

    // "their columns, and rows, are at most REACH (0 .. 3; 1 at first) apart"
    private static void promise9EachReach() {
        MarkCabinet c = Draw.ofIslands(1);
        for (int reach = 0; reach <= 3; reach++) {
            c.reach(reach);
            for (int sx = -1; sx <= 1; sx++) {
                for (int sy = -1; sy <= 1; sy++) {
                    boolean moves = sx != 0 || sy != 0;
                    String of = "promise 9: REACH " + reach + ", to " + sx + ", " + sy;
                    CHECK.due(of, 10, c.lay(0, 0, 0, sx * reach, sy * reach));
                    CHECK.due(of + ", one more", moves ? -6 : 10, c.lay(0, 0, 0, sx * (reach + 1), sy * (reach + 1)));
                }
            }
            CHECK.due("promise 9: columns alone are too far apart", -6, c.lay(0, 0, 0, reach + 1, reach));
            CHECK.due("promise 9: rows alone are too far apart", -6, c.lay(0, 0, 0, -reach, -reach - 1));
        }
    }

    /** The POINTS of two opposite corners are as far apart as any; beyond them and REACH nothing MAY PAIR. */
    private static void promise9EachReachBesideTheGrid() {
        MarkCabinet c = new MarkCabinet();
        int first = Draw.islands(c, Draw.WHOLE, at(0, 0));
        int last = Draw.islands(c, Draw.WHOLE, at(15, 15));
        for (int reach = 0; reach <= 3; reach++) {
            c.reach(reach);
            int in = 15 + reach;
            int out = 16 + reach;
            String of = "promise 9: REACH " + reach;
            CHECK.due(of + ", up to the left", 10, c.lay(last, first, 0, -in, -in));
            CHECK.due(of + ", too far to the left", 0, c.lay(last, first, 0, -out, -in));
            CHECK.due(of + ", too far up", 0, c.lay(last, first, 0, -in, -out));
            CHECK.due(of + ", down to the right", 10, c.lay(first, last, 0, in, in));
            CHECK.due(of + ", too far to the right", 0, c.lay(first, last, 0, out, in));
            CHECK.due(of + ", too far down", 0, c.lay(first, last, 0, in, out));
        }
    }

    private static void promise9PartsBesideTheGrid() {
        MarkCabinet c = new MarkCabinet();
        int part = Draw.nothing(c, Draw.WHOLE);
        int[][] edges = {{0, 7, -1, 0}, {15, 7, 1, 0}, {7, 0, 0, -1}, {7, 15, 0, 1}};
        for (int[] edge : edges) {
            int point = Draw.islands(c, Draw.WHOLE, at(edge[0], edge[1]));
            String of = "promise 9: a part and a POINT at " + edge[0] + ", " + edge[1];
            CHECK.due(of, -3, c.lay(part, point, 0, 15 * edge[2], 15 * edge[3]));
            CHECK.due(of + ", one farther", 0, c.lay(part, point, 0, 16 * edge[2], 16 * edge[3]));
            CHECK.due(of + ", the other way", -3, c.lay(point, part, 0, -15 * edge[2], -15 * edge[3]));
            CHECK.due(of + ", one farther the other way", 0, c.lay(point, part, 0, -16 * edge[2], -16 * edge[3]));
        }
    }

    private static void promise9LeastAndGreatestScore() {
        MarkCabinet c = twelveAndTwelve();
        CHECK.due("promise 9: twelve ISLANDS", 12, c.point(0, -1));
        CHECK.due("promise 9: twelve ENDS", 12, c.point(1, -1));
        CHECK.due("promise 9: the least SCORE", -72, c.lay(0, 1, 0, 0, 0));
        CHECK.told("promise 9: the least SCORE", c, 0, 24, -72, 0, 0, 0, 1);
        CHECK.due("promise 9: the greatest SCORE", 120, c.lay(1, 1, 0, 0, 0));
        CHECK.told("promise 9: the greatest SCORE", c, 12, 0, 120, 0, 0, 0, 1);
    }

    // "all less twice the PAIRS, but 0 at least"
    private static void promise9BareIsZeroAtLeast() {
        MarkCabinet c = new MarkCabinet();
        int outside = Draw.islands(c, 0xAAFF, at(2, 2), at(5, 5));
        CHECK.due("promise 9: no part holds a POINT", 20, c.lay(outside, outside, 0, 0, 0));
        CHECK.told("promise 9: no part holds a POINT", c, 2, 0, 20);
        int one = Draw.islands(c, 0x44FF, at(2, 2), at(5, 5));
        CHECK.due("promise 9: each part holds one of two", 20, c.lay(one, one, 0, 0, 0));
        int whole = Draw.islands(c, Draw.WHOLE, at(2, 2), at(5, 5));
        CHECK.due("promise 9: just as many as twice the PAIRS", 20, c.lay(whole, whole, 0, 0, 0));
        int three = Draw.islands(c, Draw.WHOLE, at(2, 2), at(5, 5), at(9, 9));
        CHECK.due("promise 9: one more than twice the PAIRS", 17, c.lay(whole, three, 0, 0, 0));
        CHECK.told("promise 9: one more than twice the PAIRS", c, 2, 1, 17);
        CHECK.due("promise 9: POINTS outside make up for others", 20, c.lay(one, three, 0, 0, 0));
    }

    private static void promise9WithoutPoints() {
        MarkCabinet c = new MarkCabinet();
        int nothing = Draw.nothing(c, Draw.WHOLE);
        int two = Draw.islands(c, Draw.WHOLE, at(0, 0), at(15, 15));
        CHECK.due("promise 9: nothing on nothing", 0, c.lay(nothing, nothing, 0, 0, 0));
        CHECK.told("promise 9: there was a LAYING", c, 0, 0, 0, 0, 0, 0, 1);
        CHECK.due("promise 9: nothing on two", -6, c.lay(nothing, two, 1, 0, 0));
        CHECK.told("promise 9: nothing on two", c, 0, 2, -6, 1, 0, 0, 1);
        CHECK.paired("promise 9: nothing on two", c);
        CHECK.due("promise 9: two on nothing", -6, c.lay(two, nothing, 3, 0, 0));
        CHECK.paired("promise 9: two on nothing", c, -1, -1);
        CHECK.due("promise 9: one of them is laid beside it", -3, c.lay(two, nothing, 0, 0, 1));
    }

    private static void promise9RefusedChangesNothing() {
        MarkCabinet c = Draw.ofIslands(2);
        int[][] wrong = {{-1, 0, 0, 0, 0}, {2, 0, 0, 0, 0}, {0, -1, 0, 0, 0}, {0, 2, 0, 0, 0}, {0, 1, -1, 0, 0},
            {0, 1, 4, 0, 0}, {0, 1, 0, -31, 0}, {0, 1, 0, 31, 0}, {0, 1, 0, 0, -31}, {0, 1, 0, 0, 31}};
        for (int[] w : wrong) {
            CHECK.due("promise 9: refused", -1000, c.lay(w[0], w[1], w[2], w[3], w[4]));
            CHECK.due("promise 11: still before any", -1000, c.told(6));
        }
        c.lay(0, 1, 2, -2, 1);
        for (int[] w : wrong) {
            CHECK.due("promise 9: refused", -1000, c.lay(w[0], w[1], w[2], w[3], w[4]));
            CHECK.told("promise 9: what is refused changes nothing", c, 0, 2, -6, 2, -2, 1, 1);
            CHECK.paired("promise 9: what is refused changes nothing", c, -1);
        }
    }

    private static void promise10FirstAndLastPrint() {
        MarkCabinet empty = new MarkCabinet();
        CHECK.refuses("promise 10: match(#, #) in an empty cabinet", -1000, 1, -1, p -> empty.match(p, p));
        MarkCabinet c = Draw.ofIslands(2);
        CHECK.due("promise 10: match(0, 1)", 10, c.match(0, 1));
        CHECK.due("promise 10: match(1, 0)", 10, c.match(1, 0));
        CHECK.refuses("promise 10: match(#, 0)", -1000, 0, 1, p -> c.match(p, 0));
        CHECK.refuses("promise 10: match(0, #)", -1000, 0, 1, p -> c.match(0, p));
        MarkCabinet full = Draw.ofIslands(24);
        CHECK.due("promise 10: match(23, 0)", 10, full.match(23, 0));
        CHECK.due("promise 10: match(0, 23)", 10, full.match(0, 23));
        CHECK.due("promise 10: match(23, 23)", 10, full.match(23, 23));
        CHECK.refuses("promise 10: match(#, 23)", -1000, 0, 23, p -> full.match(p, 23));
        CHECK.refuses("promise 10: match(23, #)", -1000, 0, 23, p -> full.match(23, p));
    }

    private static void promise10LeastAndGreatestShift() {
        MarkCabinet c = new MarkCabinet();
        int[] corner = new int[4];
        for (int k = 0; k < 4; k++) {
            corner[k] = Draw.islands(c, Draw.WHOLE, CORNERS[k]);
        }
        for (int from = 0; from < 4; from++) {
            for (int to = 0; to < 4; to++) {
                CHECK.due("promise 10: corner " + from + " and " + to, 10, c.match(corner[from], corner[to]));
                CHECK.told("promise 10: corner " + from + " and " + to, c, 1, 0, 10, 0,
                    CORNERS[to][0] - CORNERS[from][0], CORNERS[to][1] - CORNERS[from][1], 1);
            }
        }
    }

    // "of several that of the least q"
    private static void promise10LeastTurnOfSeveral() {
        MarkCabinet c = new MarkCabinet();
        c.reach(0);
        int first = Draw.islands(c, Draw.WHOLE, at(0, 0));
        int middle = Draw.islands(c, Draw.WHOLE, at(7, 7));
        // by half a TURN the shift would be -8, -8
        CHECK.due("promise 10: one on one", 10, c.match(first, middle));
        CHECK.told("promise 10: the least q goes ahead of the least dy and dx", c, 1, 0, 10, 0, 7, 7, 1);
        int beside = Draw.islands(c, Draw.WHOLE, at(5, 5), at(9, 5));
        int below = Draw.islands(c, Draw.WHOLE, at(5, 5), at(5, 9));
        // one quarter makes (10, 5), (10, 9) of the first one, three make (5, 10), (5, 6)
        CHECK.due("promise 10: one quarter and three", 20, c.match(beside, below));
        CHECK.told("promise 10: one quarter ahead of three", c, 2, 0, 20, 1, -5, 0, 1);
        CHECK.due("promise 10: three quarters by hand", 20, c.lay(beside, below, 3, 0, -1));
        CHECK.due("promise 10: none and a half", 20, c.match(beside, beside));
        CHECK.told("promise 10: none ahead of a half", c, 2, 0, 20, 0, 0, 0, 1);
        CHECK.due("promise 10: a half by hand", 20, c.lay(beside, beside, 2, -1, -5));
    }

    // "then dy"
    private static void promise10LeastRowsOfSeveral() {
        MarkCabinet c = new MarkCabinet();
        int lone = Draw.islands(c, 0x5555, at(5, 5));
        int slant = Draw.islands(c, Draw.WHOLE, at(10, 2), at(2, 10));
        CHECK.due("promise 10: one on two", 10, c.match(lone, slant));
        CHECK.told("promise 10: the least dy, though dx is greater", c, 1, 0, 10, 0, 5, -3, 1);
        CHECK.paired("promise 10: the least dy", c, 0);
        int both = Draw.islands(c, 0x5555, at(5, 4), at(5, 9));
        CHECK.due("promise 10: two of a on one of b", 10, c.match(both, lone));
        CHECK.told("promise 10: the second of a has the least dy", c, 1, 0, 10, 0, 0, -4, 1);
        CHECK.paired("promise 10: the second of a", c, -1, 0);
    }

    // "then dx"
    private static void promise10LeastColumnsOfSeveral() {
        MarkCabinet c = new MarkCabinet();
        int lone = Draw.islands(c, 0x5555, at(5, 5));
        int row = Draw.islands(c, Draw.WHOLE, at(2, 5), at(5, 5), at(9, 5));
        CHECK.due("promise 10: one on three in a row", 10, c.match(lone, row));
        CHECK.told("promise 10: the least dx", c, 1, 0, 10, 0, -3, 0, 1);
        CHECK.paired("promise 10: the first of b", c, 0);
        int two = Draw.islands(c, 0x5555, at(3, 5), at(12, 5));
        CHECK.due("promise 10: two of a on one of b", 10, c.match(two, lone));
        CHECK.told("promise 10: the second of a has the least dx", c, 1, 0, 10, 0, -7, 0, 1);
        CHECK.paired("promise 10: the second of a", c, -1, 0);
    }

    // "that lay some POINT of a just on one of b of its KIND"
    private static void promise10JustOnOneAlone() {
        MarkCabinet c = new MarkCabinet();
        int wide = Draw.islands(c, Draw.WHOLE, at(4, 4), at(10, 4));
        int narrow = Draw.islands(c, Draw.WHOLE, at(5, 4), at(9, 4));
        CHECK.due("promise 10: near both, just on none", 20, c.lay(wide, narrow, 0, 0, 0));
        CHECK.due("promise 10: such a LAYING is no MATCH", 7, c.match(wide, narrow));
        CHECK.due("promise 10: it has one PAIR", 1, c.told(0));
        Draw.onto(c, "", "##");
        int ends = c.print(Draw.WHOLE);
        int island = Draw.islands(c, Draw.WHOLE, at(0, 1));
        CHECK.due("promise 10: just on one of another KIND", 0, c.match(island, ends));
        CHECK.due("promise 10: that is none", 0, c.told(6));
        // the ISLAND lies on the ISLAND, and only so: the END beside it is of another KIND
        Draw.onto(c, "", "##.#");
        int some = c.print(0x1133);
        CHECK.due("promise 10: just on the one of its KIND", 10, c.match(island, some));
        CHECK.told("promise 10: just on the one of its KIND", c, 1, 0, 10, 0, 3, 0, 1);
    }

    private static void promise10EachReach() {
        MarkCabinet c = new MarkCabinet();
        int near = Draw.islands(c, Draw.WHOLE, at(2, 7), at(8, 7));
        int[] far = new int[5];
        for (int k = 0; k <= 4; k++) {
            far[k] = Draw.islands(c, Draw.WHOLE, at(2, 7), at(8 + k, 7));
        }
        for (int reach = 0; reach <= 3; reach++) {
            c.reach(reach);
            for (int k = 0; k <= 4; k++) {
                c.match(near, far[k]);
                CHECK.due("promise 10: PAIRS by REACH " + reach + ", " + k, k <= reach ? 2 : 1, c.told(0));
            }
        }
        // what was found by another REACH is not told again
        c.reach(0);
        c.match(near, far[3]);
        CHECK.due("promise 10: back to REACH 0", 1, c.told(0));
        c.reach(3);
        c.match(near, far[3]);
        CHECK.due("promise 10: back to REACH 3", 2, c.told(0));
    }

    private static void promise10WithItself() {
        MarkCabinet c = twelveAndTwelve();
        // two columns and three rows apart: as soon as REACH goes so far, all have PAIRS by a lesser shift too
        int[] dx = {0, 0, -2, -2};
        int[] dy = {0, 0, 0, -3};
        for (int reach = 0; reach <= 3; reach++) {
            c.reach(reach);
            CHECK.due("promise 10: twelve on themselves", 120, c.match(0, 0));
            CHECK.told("promise 10: twelve on themselves", c, 12, 0, 120, 0, dx[reach], dy[reach], 1);
            CHECK.paired("promise 10: twelve on themselves", c, 0, 1, 2, 3, 4, 5, 6, 7, 8, 9, 10, 11);
        }
    }

    // "None, if there is no such LAYING: PAIRS, SCORE 0."
    private static void promise10NoLaying() {
        MarkCabinet c = twelveAndTwelve();
        int nothing = Draw.nothing(c, Draw.WHOLE);
        int[][] without = {{0, 1}, {1, 0}, {nothing, 0}, {0, nothing}, {nothing, nothing}};
        for (int[] w : without) {
            // what was found before must not shine through
            c.lay(0, 0, 2, -1, -3);
            CHECK.due("promise 10: no LAYING of " + w[0] + " on " + w[1], 0, c.match(w[0], w[1]));
            CHECK.told("promise 10: no LAYING", c, 0, 0, 0, 0, 0, 0, 0);
            for (int i = -1; i <= 12; i++) {
                CHECK.due("promise 12: without a LAYING", -1, c.pair(i));
            }
        }
    }

    private static void promise10RefusedChangesNothing() {
        MarkCabinet c = Draw.ofIslands(2);
        CHECK.refuses("promise 10: match(#, 0)", -1000, 0, 1, p -> c.match(p, 0));
        CHECK.refuses("promise 10: match(0, #)", -1000, 0, 1, p -> c.match(0, p));
        CHECK.due("promise 11: still before any", -1000, c.told(6));
        c.lay(0, 1, 3, 0, -1);
        CHECK.refuses("promise 10: match(#, 0)", -1000, 0, 1, p -> c.match(p, 0));
        CHECK.refuses("promise 10: match(0, #)", -1000, 0, 1, p -> c.match(0, p));
        CHECK.told("promise 10: what is refused changes nothing", c, 1, 0, 10, 3, 0, -1, 1);
        CHECK.paired("promise 10: what is refused changes nothing", c, 0);
    }

    private static void promise11LeastAndGreatestWhat() {
        MarkCabinet c = new MarkCabinet();
        int a = Draw.islands(c, Draw.WHOLE, at(3, 4), at(9, 9), at(12, 2));
        int b = Draw.islands(c, Draw.WHOLE, at(5, 5), at(11, 10));
        c.lay(a, b, 0, 2, 1);
        CHECK.told("promise 11: a lay", c, 2, 1, 17, 0, 2, 1, 1);
        CHECK.refuses("promise 11: told(#)", -1000, 0, 6, c::told);
        CHECK.told("promise 11: behind refusals", c, 2, 1, 17, 0, 2, 1, 1);
        c.match(a, a);
        CHECK.refuses("promise 11: told(#) of a match", -1000, 0, 6, c::told);
    }

    // "or before any"
    private static void promise11BeforeAny() {
        MarkCabinet c = Draw.ofIslands(3);
        c.keep(0, 0, 1);
        c.keep(0, 1, 2);
        c.keep(1, 2, 2);
        for (int what = -1; what <= 7; what++) {
            CHECK.due("promise 11: told(" + what + ") before any", -1000, c.told(what));
        }
        c.match(3, 0);
        c.lay(0, 3, 0, 0, 0);
        CHECK.due("promise 11: a refused one is none", -1000, c.told(2));
        c.like(0);
        c.strangers(0, 0);
        c.flaws(0);
        c.flaw(0, 0, 0);
        c.age(2, 0);
        for (int what = 0; what <= 6; what++) {
            CHECK.due("promise 11: other calls are none", -1000, c.told(what));
        }
    }

    // "Of the latest match(), lay() that was not refused"
    private static void promise11TheLatestOne() {
        MarkCabinet c = Draw.ofIslands(1);
        int two = Draw.islands(c, Draw.WHOLE, at(3, 3), at(10, 6));
        c.match(two, two);
        CHECK.told("promise 11: a match", c, 2, 0, 20, 0, 0, 0, 1);
        c.lay(0, two, 0, 3, -1);
        CHECK.told("promise 11: a lay behind it", c, 1, 1, 7, 0, 3, -1, 1);
        c.match(0, 0);
        CHECK.told("promise 11: a match behind that", c, 1, 0, 10, 0, 0, 0, 1);
        c.lay(0, 0, 1, 30, -30);
        CHECK.told("promise 11: a lay without PAIRS", c, 0, 0, 0, 1, 30, -30, 1);
        c.reach(3);
        CHECK.told("promise 11: REACH is for later ones", c, 0, 0, 0, 1, 30, -30, 1);
    }

    // "6 1 if there was a LAYING": a SCORE of 0 does not say that there was none
    private static void promise11ScoreOfZero() {
        MarkCabinet c = new MarkCabinet();
        int[][] four = {{0, 0}, {4, 0}, {8, 0}, {12, 15}};
        int a = Draw.islands(c, Draw.WHOLE, four);
        Draw.onto(c, "#...#...#...#...", "", "", "#...#...#...#...", "", "", "#...#...#...#...");
        int b = c.print(Draw.WHOLE);
        CHECK.due("promise 11: three PAIRS and ten BARE", 0, c.lay(a, b, 0, 0, 0));
        CHECK.told("promise 11: three PAIRS and ten BARE", c, 3, 10, 0, 0, 0, 0, 1);
    }

    private static void promise12BeforeAny() {
        MarkCabinet c = Draw.ofIslands(1);
        for (int i = -1; i <= 12; i++) {
            CHECK.due("promise 12: pair(" + i + ") before any", -1, c.pair(i));
        }
        c.match(1, 0);
        c.lay(0, 0, 4, 0, 0);
        CHECK.due("promise 12: behind refusals", -1, c.pair(0));
        c.match(0, 0);
        CHECK.due("promise 12: behind a match", 0, c.pair(0));
    }

    private static void promise12FirstAndLastPoint() {
        MarkCabinet c = new MarkCabinet();
        int three = Draw.islands(c, Draw.WHOLE, at(1, 1), at(5, 5), at(9, 9));
        int five = Draw.islands(c, Draw.WHOLE, at(14, 0), at(1, 1), at(5, 5), at(9, 9), at(1, 14));
        c.lay(three, five, 0, 0, 0);
        CHECK.paired("promise 12: three on five", c, 1, 2, 3);
        CHECK.refuses("promise 12: pair(#) of three", -1, 0, 2, c::pair);
        c.lay(five, three, 0, 0, 0);
        CHECK.paired("promise 12: five on three", c, -1, 0, 1, 2, -1);
        CHECK.refuses("promise 12: pair(#) of five", -1, 0, 4, c::pair);
    }

    private static void promise12TwelfthPoint() {
        MarkCabinet c = new MarkCabinet();
        Draw.onto(c, "", "#.#.#.#.#.#.#.#.", "", "", "#.#.#.#.#.#.#.#.");
        int p = c.print(Draw.WHOLE);
        c.lay(p, p, 0, 0, 0);
        CHECK.paired("promise 12: twelve of sixteen", c, 0, 1, 2, 3, 4, 5, 6, 7, 8, 9, 10, 11);
        CHECK.refuses("promise 12: pair(#) of twelve", -1, 0, 11, c::pair);
        c.reach(0);
        // the eight of the first row by half a TURN: the last one comes first
        c.lay(p, p, 2, -1, -13);
        CHECK.paired("promise 12: eight of them turned", c, 7, 6, 5, 4, 3, 2, 1, 0, -1, -1, -1, -1);
        c.lay(p, p, 0, 0, 3);
        CHECK.paired("promise 12: the first on the last", c, 8, 9, 10, 11, -1, -1, -1, -1, -1, -1, -1, -1);
        c.lay(p, p, 0, 0, -3);
        CHECK.paired("promise 12: the last on the first", c, -1, -1, -1, -1, -1, -1, -1, -1, 0, 1, 2, 3);
    }

    // "by POINTS of a, rising: the lesser POINT of b"
    private static void promise12LesserPointOfB() {
        MarkCabinet c = new MarkCabinet();
        int one = Draw.islands(c, Draw.WHOLE, at(7, 7));
        int around = Draw.islands(c, Draw.WHOLE, at(6, 6), at(8, 6), at(6, 8), at(8, 8));
        c.lay(one, around, 0, 0, 0);
        CHECK.paired("promise 12: the least of four", c, 0);
        c.lay(one, around, 0, 0, 1);
        CHECK.paired("promise 12: the lesser of two", c, 2);
        c.lay(one, around, 0, 1, 1);
        CHECK.paired("promise 12: one of four alone", c, 3);
        // every one of a may have every one of b: the first has the first, though it lies on another one
        c.reach(3);
        c.lay(around, around, 0, 0, 0);
        CHECK.paired("promise 12: four on themselves", c, 0, 1, 2, 3);
        c.lay(around, around, 2, -1, -1);
        CHECK.paired("promise 12: four turned by a half", c, 0, 1, 2, 3);
        c.lay(around, around, 1, -1, 0);
        CHECK.paired("promise 12: four turned by a quarter", c, 0, 1, 2, 3);
    }

    // "none being greater than all"
    private static void promise12NoneIsGreaterThanAll() {
        MarkCabinet c = new MarkCabinet();
        int one = Draw.islands(c, Draw.WHOLE, at(7, 7));
        int around = Draw.islands(c, Draw.WHOLE, at(6, 6), at(8, 6), at(6, 8), at(8, 8));
        c.lay(around, one, 0, 0, 0);
        CHECK.paired("promise 12: the first of four has it", c, 0, -1, -1, -1);
        c.lay(around, one, 0, 0, -1);
        CHECK.paired("promise 12: the first two are too far", c, -1, -1, 0, -1);
        // two of b for three of a: the first two have them, though the last one lies on one of them
        int two = Draw.islands(c, Draw.WHOLE, at(7, 5), at(7, 9));
        int three = Draw.islands(c, Draw.WHOLE, at(6, 7), at(8, 7), at(7, 9));
        c.reach(2);
        c.lay(three, two, 0, 0, 0);
        CHECK.paired("promise 12: the first two of three", c, 0, 1, -1);
    }

    // "of all ways to make the most PAIRS of a LAYING"
    private static void promise12MostPairsGoFirst() {
        MarkCabinet c = new MarkCabinet();
        c.reach(2);
        // the second of a MAY PAIR with the first of b alone, so that the first of a leaves it
        int a = Draw.islands(c, Draw.WHOLE, at(6, 5), at(3, 7));
        int b = Draw.islands(c, Draw.WHOLE, at(4, 6), at(7, 6));
        c.lay(a, b, 0, 0, 0);
        CHECK.told("promise 12: both", c, 2, 0, 20);
        CHECK.paired("promise 12: the first has the greater", c, 1, 0);
        // the third must have the first of b, the first has the least of what is left
        int more = Draw.islands(c, Draw.WHOLE, at(6, 5), at(8, 5), at(3, 7));
        int rest = Draw.islands(c, Draw.WHOLE, at(4, 6), at(6, 6), at(8, 6));
        c.lay(more, rest, 0, 0, 0);
        CHECK.told("promise 12: all three", c, 3, 0, 30);
        CHECK.paired("promise 12: all three", c, 1, 2, 0);
    }

    /** The last of twelve MAY PAIR with one of b alone, which all the others must then leave to one another in turn. */
    private static void promise12LongestChain() {
        MarkCabinet c = new MarkCabinet();
        // down the left edge and along the lower one; half a TURN makes the last of a the uppermost
        int[][] a = {{0, 0}, {0, 2}, {0, 4}, {0, 6}, {0, 8}, {0, 10}, {0, 12}, {2, 14}, {4, 14}, {6, 14}, {8, 14},
            {10, 14}};
        int[][] b = {{0, 1}, {0, 3}, {0, 5}, {0, 7}, {0, 9}, {0, 11}, {1, 13}, {3, 14}, {5, 14}, {7, 14}, {9, 14},
            {11, 14}};
        for (int[] place : a) {
            place[0] = 15 - place[0];
            place[1] = 15 - place[1];
        }
        int upper = Draw.islands(c, Draw.WHOLE, a);
        int lower = Draw.islands(c, Draw.WHOLE, b);
        CHECK.due("promise 9: twelve in a chain", 120, c.lay(upper, lower, 2, 0, 0));
        CHECK.told("promise 11: twelve in a chain", c, 12, 0, 120, 2, 0, 0, 1);
        CHECK.paired("promise 12: twelve in a chain", c, 11, 10, 9, 8, 7, 6, 5, 4, 3, 2, 1, 0);
        CHECK.due("promise 9: the chain the other way", 120, c.lay(lower, upper, 2, 0, 0));
        CHECK.paired("promise 12: the chain the other way", c, 11, 10, 9, 8, 7, 6, 5, 4, 3, 2, 1, 0);
    }

    private static void promise12OldPairsAreGone() {
        MarkCabinet c = twelveAndTwelve();
        int one = Draw.islands(c, Draw.WHOLE, at(0, 1));
        c.lay(0, 0, 0, 0, 0);
        CHECK.due("promise 12: the twelfth", 11, c.pair(11));
        c.lay(one, 0, 0, 0, 0);
        CHECK.paired("promise 12: one on twelve", c, 0);
        for (int i = 1; i <= 12; i++) {
            CHECK.due("promise 12: there is no POINT " + i, -1, c.pair(i));
        }
    }
}
