import java.util.Arrays;

/**
 * A cabinet of tools' marks: prints are read off a small grid, matched by quarter turns and shifts,
 * kept with tools, and told apart by the flaws that a tool has come by over the years.
 */
public final class MarkCabinet {
    public static final int NONE = -1, FULL = -2, THERE = -3, EMPTY = -4;

    /** The refusal where NONE could be a right answer too; it is also below every SCORE. */
    private static final int REFUSED = -1000;

    private static final int SIDE = 16;
    private static final int GREATEST_BITS = 65535;
    private static final int MOST_PRINTS = 24;
    private static final int MOST_POINTS = 12;
    private static final int ALL_POINTS = (1 << MOST_POINTS) - 1;
    private static final int KINDS = 3;
    private static final int ISLAND = 0, END = 1, FORK = 2;
    private static final int TURNS = 4;
    private static final int MOST_REACH = 3;
    private static final int MOST_SHIFT = 30;
    private static final int TOOLS = 10;
    private static final int LAST_YEAR = 9999;

    private final Grid grid = new Grid();
    private final int[] firstPoints = new int[MOST_POINTS];
    private final Print[] prints = new Print[MOST_PRINTS];
    private int made = 0;

    private final Matches matches = new Matches();
    private final Laying latest = new Laying();
    private boolean anyLaid = false;

    // like(), flaws() and their kin must not change what told() tells, so they lay prints here
    private final Laying trial = new Laying();
    private final History history = new History();
    private int from = 0;
    private int till = 0;
    private boolean anyAged = false;

    public MarkCabinet() {
    }

    public int feed(int y, int bits) {
        if (!isWithin(y, 0, SIDE - 1) || !isWithin(bits, 0, GREATEST_BITS)) {
            return NONE;
        }
        grid.setRow(y, bits);
        return grid.darkCells();
    }

    public int row(int y) {
        return isWithin(y, 0, SIDE - 1) ? grid.bitsOf(y) : NONE;
    }

    public int thin() {
        return grid.takeThinned();
    }

    public int pieces(int what) {
        switch (what) {
            case 0: return grid.darkPieces();
            case 1: return grid.holes();
            default: return NONE;
        }
    }

    public int print(int struck) {
        if (!isWithin(struck, 0, GREATEST_BITS)) {
            return NONE;
        }
        int x0 = struck >> 12;
        int y0 = struck >> 8 & 15;
        int x1 = struck >> 4 & 15;
        int y1 = struck & 15;
        if (x0 > x1 || y0 > y1) {
            return NONE;
        }
        if (made >= MOST_PRINTS) {
            return FULL;
        }
        int points = Math.min(grid.readPoints(firstPoints), MOST_POINTS);
        prints[made] = new Print(made, Arrays.copyOf(firstPoints, points), new Part(x0, y0, x1, y1));
        made++;
        return made - 1;
    }

    public int point(int print, int what) {
        Print p = printAt(print);
        if (p == null) {
            return NONE;
        }
        if (what == -1) {
            return p.size();
        }
        if (what < 0 || what / 3 >= p.size()) {
            return NONE;
        }
        switch (what % 3) {
            case 0: return p.columnOf(what / 3);
            case 1: return p.rowOf(what / 3);
            default: return p.kindOf(what / 3);
        }
    }

    public int reach(int r) {
        if (!isWithin(r, 0, MOST_REACH)) {
            return NONE;
        }
        int before = matches.reach;
        matches.reach = r;
        return before;
    }

    public int lay(int a, int b, int q, int dx, int dy) {
        Print upper = printAt(a);
        Print lower = printAt(b);
        if (upper == null || lower == null || !isWithin(q, 0, TURNS - 1)) {
            return REFUSED;
        }
        if (!isWithin(dx, -MOST_SHIFT, MOST_SHIFT) || !isWithin(dy, -MOST_SHIFT, MOST_SHIFT)) {
            return REFUSED;
        }
        latest.set(q, dx, dy);
        matches.fillIn(upper, lower, latest);
        anyLaid = true;
        return latest.score;
    }

    public int match(int a, int b) {
        Print upper = printAt(a);
        Print lower = printAt(b);
        if (upper == null || lower == null) {
            return REFUSED;
        }
        matches.layBest(upper, lower, latest);
        anyLaid = true;
        return latest.score;
    }

    public int told(int what) {
        if (!anyLaid) {
            return REFUSED;
        }
        switch (what) {
            case 0: return latest.pairs;
            case 1: return latest.bare;
            case 2: return latest.score;
            case 3: return latest.q;
            case 4: return latest.dx;
            case 5: return latest.dy;
            case 6: return latest.found ? 1 : 0;
            default: return REFUSED;
        }
    }

    public int pair(int i) {
        return anyLaid && isWithin(i, 0, MOST_POINTS - 1) ? latest.partner[i] : NONE;
    }

    public int keep(int tool, int print, int year) {
        Print p = printAt(print);
        if (p == null || !isTool(tool) || !isWithin(year, 0, LAST_YEAR)) {
            return NONE;
        }
        if (p.tool != NONE || hasYear(tool, year)) {
            return THERE;
        }
        p.tool = tool;
        p.year = year;
        return keptBy(tool);
    }

    public int part(int print) {
        Print p = printAt(print);
        if (p == null) {
            return NONE;
        }
        if (p.tool == NONE) {
            return EMPTY;
        }
        p.tool = NONE;
        p.year = NONE;
        return 1;
    }

    public int of(int print, int what) {
        Print p = printAt(print);
        if (p == null || !isWithin(what, 0, 1)) {
            return REFUSED;
        }
        return what == 0 ? p.tool : p.year;
    }

    public int melt(int a, int b) {
        if (!isTool(a) || !isTool(b) || a == b) {
            return NONE;
        }
        for (int k = 0; k < made; k++) {
            if (prints[k].tool == b && hasYear(a, prints[k].year)) {
                return THERE;
            }
        }
        for (int k = 0; k < made; k++) {
            if (prints[k].tool == b) {
                prints[k].tool = a;
            }
        }
        return keptBy(a);
    }

    public int like(int print) {
        Print p = printAt(print);
        if (p == null) {
            return NONE;
        }
        int tool = EMPTY;
        int greatest = REFUSED;
        for (int k = 0; k < made; k++) {
            Print other = prints[k];
            if (other == p || other.tool == NONE) {
                continue;
            }
            int score = matches.scoreOf(other, p);
            if (score > greatest || score == greatest && other.tool < tool) {
                greatest = score;
                tool = other.tool;
            }
        }
        return tool;
    }

    public int strangers(int score, int what) {
        if (!isWithin(what, 0, 1)) {
            return NONE;
        }
        int number = 0;
        for (int k = 0; k < made; k++) {
            for (int m = k + 1; m < made; m++) {
                if (!areStrangers(prints[k], prints[m])) {
                    continue;
                }
                if (what == 1 || matches.scoreOf(prints[k], prints[m]) >= score) {
                    number++;
                }
            }
        }
        return number;
    }

    public int flaws(int tool) {
        if (!isTool(tool)) {
            return NONE;
        }
        return readHistory(tool) ? Integer.bitCount(history.flawed) : EMPTY;
    }

    public int flaw(int tool, int i, int what) {
        if (!isTool(tool) || i < 0 || !isWithin(what, 0, 1)) {
            return NONE;
        }
        if (!readHistory(tool)) {
            return EMPTY;
        }
        int point = history.flawAt(i);
        if (point < 0) {
            return NONE;
        }
        return what == 0 ? point : history.comes[point];
    }

    public int age(int print, int tool) {
        Print p = printAt(print);
        if (p == null || !isTool(tool)) {
            return NONE;
        }
        if (p.tool == tool || !readHistory(tool)) {
            return EMPTY;
        }
        Print newest = newestOf(tool);
        if (newest == null) {
            return EMPTY;
        }
        matches.layBest(newest, p, trial);
        from = history.lastComing(trial.paired, 0);
        till = history.firstComing(trial.lacking(), LAST_YEAR + 1);
        anyAged = true;
        return from >= till ? 0 : 1;
    }

    public int struck(int what) {
        if (!anyAged || !isWithin(what, 0, 1)) {
            return NONE;
        }
        return what == 0 ? from : till;
    }

    public int count(int what) {
        switch (what) {
            case 0: return made;
            case 1: return toolsWithPrints();
            case 2: return grid.darkCells();
            case 3: return grid.readPoints(firstPoints);
            default: return NONE;
        }
    }

    private static boolean isWithin(int number, int least, int most) {
        return number >= least && number <= most;
    }

    private static boolean isTool(int tool) {
        return isWithin(tool, 0, TOOLS - 1);
    }

    private static boolean areStrangers(Print a, Print b) {
        return a.tool != NONE && b.tool != NONE && a.tool != b.tool;
    }

    /** The PRINT of this number, or null. */
    private Print printAt(int number) {
        return isWithin(number, 0, made - 1) ? prints[number] : null;
    }

    private boolean hasYear(int tool, int year) {
        for (int k = 0; k < made; k++) {
            if (prints[k].tool == tool && prints[k].year == year) {
                return true;
            }
        }
        return false;
    }

    private int keptBy(int tool) {
        int number = 0;
        for (int k = 0; k < made; k++) {
            if (prints[k].tool == tool) {
                number++;
            }
        }
        return number;
    }

    private int toolsWithPrints() {
        int number = 0;
        for (int tool = 0; tool < TOOLS; tool++) {
            if (keptBy(tool) > 0) {
                number++;
            }
        }
        return number;
    }

    /** The TOOL's PRINT of the latest YEAR, or null. */
    private Print newestOf(int tool) {
        Print newest = null;
        for (int k = 0; k < made; k++) {
            if (prints[k].tool == tool && (newest == null || prints[k].year > newest.year)) {
                newest = prints[k];
            }
        }
        return newest;
    }

    /** Reads the TOOL's FLAWS into the history; false if it has too few PRINTS for any. */
    private boolean readHistory(int tool) {
        Print newest = newestOf(tool);
        if (newest == null || keptBy(tool) < 2) {
            return false;
        }
        history.clear();
        for (int k = 0; k < made; k++) {
            if (prints[k].tool == tool && prints[k] != newest) {
                matches.layBest(newest, prints[k], trial);
                history.hear(prints[k], trial.paired, trial.lacking());
            }
        }
        history.hear(newest, ALL_POINTS, 0);
        history.dateFlaws();
        return true;
    }

    /** THE GRID, inside a rim of cells that are never DARK, so that each of its cells has eight NEIGHBOURS. */
    private static final class Grid {
        private static final int WIDE = SIDE + 2;
        private static final int WHOLE_ROW = (1 << WIDE) - 1;
        // the four SIDES stand first, so that a walk by SIDES takes the first four ways alone
        private static final int[] WAY_X = {0, 1, 0, -1, 1, 1, -1, -1};
        private static final int[] WAY_Y = {-1, 0, 1, 0, -1, 1, 1, -1};
        // a ring's bits, from the highest on: NW N NE E SE S SW W
        private static final int RING_SIDES = 0b01010101;

        private final int[] rows = new int[WIDE];
        private final int[] left = new int[WIDE];
        private final int[] queue = new int[WIDE * WIDE];

        void setRow(int y, int bits) {
            rows[y + 1] = bits << 1;
        }

        int bitsOf(int y) {
            return rows[y + 1] >> 1;
        }

        int darkCells() {
            int number = 0;
            for (int y = 0; y < WIDE; y++) {
                number += Integer.bitCount(rows[y]);
            }
            return number;
        }

        /** Thins it; answers how many cells went. */
        int takeThinned() {
            int gone = 0;
            // every sweep but the last one takes a cell at least
            for (int sweep = 0; sweep <= SIDE * SIDE; sweep++) {
                int taken = sweepOnce();
                if (taken == 0) {
                    break;
                }
                gone += taken;
            }
            return gone;
        }

        private int sweepOnce() {
            int taken = 0;
            for (int y = 0; y < SIDE; y++) {
                for (int x = 0; x < SIDE; x++) {
                    if (isDark(x, y) && goes(ringAt(x, y))) {
                        rows[y + 1] &= ~(1 << SIDE - x);
                        taken++;
                    }
                }
            }
            return taken;
        }

        private static boolean goes(int ring) {
            int sides = ring & RING_SIDES;
            return sides != RING_SIDES && Integer.bitCount(ring) >= 2 && hangsTogether(ring);
        }

        private static boolean hangsTogether(int ring) {
            int sides = ring & RING_SIDES;
            // two SIDES at a corner touch across it, so the corner may be taken as DARK: then runs can be counted
            int filled = ring | sides << 1 & (sides >> 1 | sides << 7);
            int runStarts = filled & ~(filled << 1 | filled >> 7);
            return Integer.bitCount(runStarts) <= 1;
        }

        private boolean isDark(int x, int y) {
            return (rows[y + 1] >> SIDE - x & 1) != 0;
        }

        /** The bits of a rimmed row in the columns x - 1, x and x + 1. */
        private static int threeAt(int row, int x) {
            return row >> SIDE - 1 - x & 7;
        }

        private int ringAt(int x, int y) {
            int above = threeAt(rows[y], x);
            int beside = threeAt(rows[y + 1], x);
            int below = threeAt(rows[y + 2], x);
            int right = beside & 1;
            int belowTurned = (below & 1) << 2 | below & 2 | below >> 2;
            return above << 5 | right << 4 | belowTurned << 1 | beside >> 2;
        }

        int darkPieces() {
            System.arraycopy(rows, 0, left, 0, WIDE);
            return takePieces(8);
        }

        int holes() {
            for (int y = 0; y < WIDE; y++) {
                left[y] = ~rows[y] & WHOLE_ROW;
            }
            // the rim, with all that comes to it, is the outside and no hole
            return takePieces(4) - 1;
        }

        private int takePieces(int ways) {
            int number = 0;
            for (int y = 0; y < WIDE; y++) {
                for (int x = 0; x < WIDE; x++) {
                    if (takes(x, y)) {
                        takeRest(x, y, ways);
                        number++;
                    }
                }
            }
            return number;
        }

        private void takeRest(int x, int y, int ways) {
            queue[0] = y * WIDE + x;
            int end = 1;
            // a cell is queued only as it is taken, hence once at most
            for (int i = 0; i < end && i < queue.length; i++) {
                for (int way = 0; way < ways; way++) {
                    int nextX = queue[i] % WIDE + WAY_X[way];
                    int nextY = queue[i] / WIDE + WAY_Y[way];
                    if (end < queue.length && takes(nextX, nextY)) {
                        queue[end] = nextY * WIDE + nextX;
                        end++;
                    }
                }
            }
        }

        private boolean takes(int x, int y) {
            if (!isWithin(x, 0, WIDE - 1) || !isWithin(y, 0, WIDE - 1)) {
                return false;
            }
            int bit = 1 << WIDE - 1 - x;
            boolean there = (left[y] & bit) != 0;
            left[y] &= ~bit;
            return there;
        }

        /** Writes as many POINTS as there is room for, as a Print has them; answers how many there are in all. */
        int readPoints(int[] first) {
            int all = 0;
            int forksAbove = 0;
            for (int y = 0; y < SIDE; y++) {
                int forks = 0;
                for (int x = 0; x < SIDE; x++) {
                    boolean forkAhead = (threeAt(forksAbove, x) | threeAt(forks, x)) != 0;
                    int kind = isDark(x, y) ? kindOf(Integer.bitCount(ringAt(x, y)), forkAhead) : NONE;
                    if (kind == FORK) {
                        forks |= 1 << SIDE - x;
                    }
                    if (kind != NONE && all < first.length) {
                        first[all] = kind * SIDE * SIDE + y * SIDE + x;
                    }
                    if (kind != NONE) {
                        all++;
                    }
                }
                forksAbove = forks;
            }
            return all;
        }

        private static int kindOf(int darkNeighbours, boolean forkAhead) {
            if (darkNeighbours == 0) {
                return ISLAND;
            }
            if (darkNeighbours == 1) {
                return END;
            }
            return darkNeighbours >= 3 && !forkAhead ? FORK : NONE;
        }
    }

    /** A part of the plane: columns x0 .. x1, rows y0 .. y1. */
    private static final class Part {
        int x0, y0, x1, y1;

        Part(int x0, int y0, int x1, int y1) {
            this.x0 = x0;
            this.y0 = y0;
            this.x1 = x1;
            this.y1 = y1;
        }

        boolean holds(int x, int y) {
            return x >= x0 && x <= x1 && y >= y0 && y <= y1;
        }

        /** Becomes the other part by a TURN; two corners that are opposite tell all four. */
        void becomeTurned(Part other, int q) {
            int xa = turnedColumn(other.x0, other.y0, q);
            int xb = turnedColumn(other.x1, other.y1, q);
            int ya = turnedRow(other.x0, other.y0, q);
            int yb = turnedRow(other.x1, other.y1, q);
            x0 = Math.min(xa, xb);
            x1 = Math.max(xa, xb);
            y0 = Math.min(ya, yb);
            y1 = Math.max(ya, yb);
        }

        static int turnedColumn(int x, int y, int q) {
            switch (q) {
                case 0: return x;
                case 1: return SIDE - 1 - y;
                case 2: return SIDE - 1 - x;
                default: return y;
            }
        }

        static int turnedRow(int x, int y, int q) {
            switch (q) {
                case 0: return y;
                case 1: return x;
                case 2: return SIDE - 1 - y;
                default: return SIDE - 1 - x;
            }
        }
    }

    /** A PRINT; a POINT is one number: KIND * 256 + row * 16 + column. */
    private static final class Print {
        final int number;
        private final int[] points;
        final Part part;
        int tool = NONE;
        int year = NONE;

        Print(int number, int[] points, Part part) {
            this.number = number;
            this.points = points;
            this.part = part;
        }

        int size() {
            return points.length;
        }

        int columnOf(int i) {
            return points[i] & 15;
        }

        int rowOf(int i) {
            return points[i] >> 4 & 15;
        }

        int kindOf(int i) {
            return points[i] >> 8;
        }
    }

    /** A LAYING of one PRINT on another one and what came of it, or that there was none. */
    private static final class Laying {
        boolean found = false;
        int q = 0, dx = 0, dy = 0;
        int pairs = 0, bare = 0, score = 0;
        // bit i: POINT i of the print that is laid has a PAIR; lies in the other's STRUCK part
        int paired = 0, inside = 0;
        final int[] partner = new int[MOST_POINTS];

        void set(int q, int dx, int dy) {
            found = true;
            this.q = q;
            this.dx = dx;
            this.dy = dy;
        }

        void setNone() {
            set(0, 0, 0);
            found = false;
            pairs = 0;
            bare = 0;
            score = 0;
            paired = 0;
            inside = 0;
            Arrays.fill(partner, NONE);
        }

        int lacking() {
            return inside & ~paired;
        }
    }

    /** Tells which POINTS of a print are within REACH of a place: bit j for POINT j. */
    private static final class Finder {
        // places from -MOST_REACH on: beyond these strips nothing is within REACH
        private final int[] byColumn = new int[SIDE + 2 * MOST_REACH];
        private final int[] byRow = new int[SIDE + 2 * MOST_REACH];
        private final int[] byKind = new int[KINDS];

        void learn(Print p, int reach) {
            Arrays.fill(byColumn, 0);
            Arrays.fill(byRow, 0);
            Arrays.fill(byKind, 0);
            for (int j = 0; j < p.size(); j++) {
                mark(byColumn, p.columnOf(j), reach, 1 << j);
                mark(byRow, p.rowOf(j), reach, 1 << j);
                byKind[p.kindOf(j)] |= 1 << j;
            }
        }

        int near(int x, int y, int kind) {
            int column = x + MOST_REACH;
            int row = y + MOST_REACH;
            if (column < 0 || column >= byColumn.length || row < 0 || row >= byRow.length) {
                return 0;
            }
            return byColumn[column] & byRow[row] & byKind[kind];
        }

        private static void mark(int[] strip, int place, int reach, int bit) {
            for (int at = place - reach; at <= place + reach; at++) {
                strip[at + MOST_REACH] |= bit;
            }
        }
    }

    /** Makes the most PAIRS, by paths along which POINTS give way to one another. */
    private static final class Pairing {
        // for each POINT of a: bit j if it MAY PAIR with POINT j of b
        private final int[] may = new int[MOST_POINTS];
        private int size = 0;
        private final int[] holder = new int[MOST_POINTS];
        private int untried = 0;

        void clear() {
            size = 0;
        }

        void add(int mayPair) {
            if (size < MOST_POINTS) {
                may[size] = mayPair;
                size++;
            }
        }

        /** No fewer than the most PAIRS, and told at once. */
        int bound() {
            int withSome = 0;
            int any = 0;
            for (int i = 0; i < size; i++) {
                withSome += may[i] != 0 ? 1 : 0;
                any |= may[i];
            }
            return Math.min(withSome, Integer.bitCount(any));
        }

        /** The most PAIRS of the POINTS of a from 'first' on with those of b that are free. */
        int most(int first, int free) {
            Arrays.fill(holder, NONE);
            int pairs = 0;
            for (int i = first; i < size; i++) {
                untried = free;
                if (finds(this, i, 0)) {
                    pairs++;
                }
            }
            return pairs;
        }

        /** WHICH PAIRS, given how many they are; answers the POINTS of a that have one, as bits. */
        int choose(int pairs, int[] partner) {
            Arrays.fill(partner, NONE);
            int free = ALL_POINTS;
            int due = pairs;
            int paired = 0;
            for (int i = 0; i < size; i++) {
                for (int j = 0; j < MOST_POINTS && partner[i] == NONE; j++) {
                    int others = free & ~(1 << j);
                    // a PAIR is taken only if the POINTS behind it can still make all the others that are due
                    if ((may[i] & free & ~others) != 0 && most(i + 1, others) == due - 1) {
                        partner[i] = j;
                        paired |= 1 << i;
                        free = others;
                        due--;
                    }
                }
            }
            return paired;
        }

        private static boolean finds(Pairing p, int i, int depth) {
            // each level has tried one POINT of b more, so that none is left at this depth
            if (depth >= MOST_POINTS) {
                return false;
            }
            for (int tries = 0; tries < MOST_POINTS; tries++) {
                int open = p.may[i] & p.untried;
                if (open == 0) {
                    return false;
                }
                int j = Integer.bitCount((open & -open) - 1);
                p.untried &= ~(1 << j);
                int other = p.holder[j];
                if (other == NONE || finds(p, other, depth + 1)) {
                    p.holder[j] = i;
                    return true;
                }
            }
            return false;
        }
    }

    /** Lays PRINTS on one another and finds their MATCHES. */
    private static final class Matches {
        private static final int SHIFTS = 2 * SIDE - 1;
        private static final int UNKNOWN = 0, NO_LAYING = 1;

        int reach = 1;
        // POINTS and STRUCK parts of PRINTS never change, so what was found once for a REACH holds for good
        private final int[] known = new int[(MOST_REACH + 1) * MOST_PRINTS * MOST_PRINTS];
        private final Finder finder = new Finder();
        private final Pairing pairing = new Pairing();
        // the print that is laid, by the TURN alone
        private final int[] turnedX = new int[MOST_POINTS];
        private final int[] turnedY = new int[MOST_POINTS];
        private final Part turnedPart = new Part(0, 0, 0, 0);
        // row dy, bit dx (both from the least shift on): some POINT comes just on one of its KIND
        private final int[] landings = new int[SHIFTS];
        private int inside = 0;
        private int struckByBoth = 0;

        int scoreOf(Print a, Print b) {
            int best = bestOf(a, b);
            return best == NO_LAYING ? 0 : unpackScore(best);
        }

        void layBest(Print a, Print b, Laying out) {
            int best = bestOf(a, b);
            if (best == NO_LAYING) {
                out.setNone();
                return;
            }
            out.set(unpackTurn(best), unpackColumn(best), unpackRow(best));
            fillIn(a, b, out);
        }

        /** Works out the LAYING whose TURN and shift are set. */
        void fillIn(Print a, Print b, Laying out) {
            finder.learn(b, reach);
            turnBy(a, out.q);
            shiftBy(a, b, out.dx, out.dy);
            out.pairs = pairing.most(0, ALL_POINTS);
            out.bare = bareWith(out.pairs);
            out.score = scoreWith(out.pairs);
            out.inside = inside;
            out.paired = pairing.choose(out.pairs, out.partner);
        }

        private int bestOf(Print a, Print b) {
            int at = (reach * MOST_PRINTS + a.number) * MOST_PRINTS + b.number;
            if (known[at] == UNKNOWN) {
                known[at] = search(a, b);
            }
            return known[at];
        }

        private int search(Print a, Print b) {
            finder.learn(b, reach);
            int best = NO_LAYING;
            int greatest = REFUSED;
            // by q, dy and dx, rising: the first of several that score as much is the one that is due
            for (int q = 0; q < TURNS; q++) {
                turnBy(a, q);
                markLandings(a, b);
                for (int row = 0; row < SHIFTS; row++) {
                    for (int column = 0; column < SHIFTS && landings[row] >> column != 0; column++) {
                        if ((landings[row] >> column & 1) == 0) {
                            continue;
                        }
                        shiftBy(a, b, column - SIDE + 1, row - SIDE + 1);
                        // the SCORE rises with the PAIRS, so that a bound on them often spares the counting
                        int score = scoreWith(pairing.bound());
                        if (score > greatest) {
                            score = scoreWith(pairing.most(0, ALL_POINTS));
                        }
                        if (score > greatest) {
                            greatest = score;
                            best = pack(score, q, row, column);
                        }
                    }
                }
            }
            return best;
        }

        private void turnBy(Print a, int q) {
            for (int i = 0; i < a.size(); i++) {
                turnedX[i] = Part.turnedColumn(a.columnOf(i), a.rowOf(i), q);
                turnedY[i] = Part.turnedRow(a.columnOf(i), a.rowOf(i), q);
            }
            turnedPart.becomeTurned(a.part, q);
        }

        private void markLandings(Print a, Print b) {
            Arrays.fill(landings, 0);
            for (int i = 0; i < a.size(); i++) {
                for (int j = 0; j < b.size(); j++) {
                    if (a.kindOf(i) == b.kindOf(j)) {
                        int dx = b.columnOf(j) - turnedX[i];
                        int dy = b.rowOf(j) - turnedY[i];
                        landings[dy + SIDE - 1] |= 1 << dx + SIDE - 1;
                    }
                }
            }
        }

        private void shiftBy(Print a, Print b, int dx, int dy) {
            inside = 0;
            pairing.clear();
            for (int i = 0; i < a.size(); i++) {
                int x = turnedX[i] + dx;
                int y = turnedY[i] + dy;
                pairing.add(finder.near(x, y, a.kindOf(i)));
                if (b.part.holds(x, y)) {
                    inside |= 1 << i;
                }
            }
            struckByBoth = Integer.bitCount(inside);
            for (int j = 0; j < b.size(); j++) {
                if (turnedPart.holds(b.columnOf(j) - dx, b.rowOf(j) - dy)) {
                    struckByBoth++;
                }
            }
        }

        private int bareWith(int pairs) {
            return Math.max(0, struckByBoth - 2 * pairs);
        }

        private int scoreWith(int pairs) {
            return 10 * pairs - 3 * bareWith(pairs);
        }

        /** One number for a MATCH, above NO_LAYING. */
        private static int pack(int score, int q, int row, int column) {
            return (((score - REFUSED) * TURNS + q) * SHIFTS + row) * SHIFTS + column;
        }

        private static int unpackScore(int packed) {
            return packed / (TURNS * SHIFTS * SHIFTS) + REFUSED;
        }

        private static int unpackTurn(int packed) {
            return packed / (SHIFTS * SHIFTS) % TURNS;
        }

        private static int unpackRow(int packed) {
            return packed / SHIFTS % SHIFTS - SIDE + 1;
        }

        private static int unpackColumn(int packed) {
            return packed % SHIFTS - SIDE + 1;
        }
    }

    /** What the PRINTS of one TOOL say of the POINTS of its latest one. */
    private static final class History {
        // bit i: POINT i is a FLAW
        int flawed = 0;
        final int[] comes = new int[MOST_POINTS];
        private int size = 0;
        private final int[] years = new int[MOST_PRINTS];
        private final int[] having = new int[MOST_PRINTS];
        private final int[] lastLack = new int[MOST_POINTS];

        void clear() {
            flawed = 0;
            size = 0;
            Arrays.fill(lastLack, NONE);
        }

        /** A PRINT says which POINTS it has and which it lacks, as bits. */
        void hear(Print p, int has, int lacks) {
            if (size >= MOST_PRINTS) {
                return;
            }
            years[size] = p.year;
            having[size] = has;
            size++;
            flawed |= lacks;
            for (int i = 0; i < MOST_POINTS; i++) {
                if ((lacks >> i & 1) != 0) {
                    lastLack[i] = Math.max(lastLack[i], p.year);
                }
            }
        }

        void dateFlaws() {
            for (int i = 0; i < MOST_POINTS; i++) {
                comes[i] = LAST_YEAR + 1;
                for (int k = 0; k < size; k++) {
                    if ((having[k] >> i & 1) != 0 && years[k] > lastLack[i]) {
                        comes[i] = Math.min(comes[i], years[k]);
                    }
                }
            }
        }

        /** The POINT of the FLAW of this number, or NONE. */
        int flawAt(int number) {
            int before = 0;
            for (int i = 0; i < MOST_POINTS; i++) {
                if ((flawed >> i & 1) == 0) {
                    continue;
                }
                if (before == number) {
                    return i;
                }
                before++;
            }
            return NONE;
        }

        int lastComing(int points, int none) {
            int last = none;
            for (int i = 0; i < MOST_POINTS; i++) {
                if (((points & flawed) >> i & 1) != 0) {
                    last = Math.max(last, comes[i]);
                }
            }
            return last;
        }

        int firstComing(int points, int none) {
            int first = none;
            for (int i = 0; i < MOST_POINTS; i++) {
                if (((points & flawed) >> i & 1) != 0) {
                    first = Math.min(first, comes[i]);
                }
            }
            return first;
        }
    }
}
