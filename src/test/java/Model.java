import java.util.ArrayList;
import java.util.HashMap;
import java.util.List;
import java.util.Map;

/**
 * The document once more, in its slowest and plainest form and by other ways than the program's: sets of cells
 * instead of bits, every shift instead of the landings, all ways to pair instead of paths. ModelTest holds both
 * against one another.
 */
final class Model {
    record Point(int x, int y, int kind) {
        boolean isOn(Point other) {
            return x == other.x && y == other.y && kind == other.kind;
        }

        boolean mayPair(Point other, int reach) {
            return kind == other.kind && Math.abs(x - other.x) <= reach && Math.abs(y - other.y) <= reach;
        }

        Point turned() {
            return new Point(15 - y, x, kind);
        }
    }

    record Box(int x0, int y0, int x1, int y1) {
        boolean holds(Point p) {
            return x0 <= p.x && p.x <= x1 && y0 <= p.y && p.y <= y1;
        }
    }

    static final class Mark {
        List<Point> points = new ArrayList<>();
        Box box;
        int tool = -1;
        int year = -1;
    }

    record Laid(boolean found, int q, int dx, int dy, int pairs, int bare, int score, int[] partner, boolean[] inside) {
        boolean has(int i) {
            return found && partner[i] >= 0;
        }

        boolean lacks(int i) {
            return found && partner[i] < 0 && inside[i];
        }
    }

    private final boolean[][] dark = new boolean[16][16];
    private final List<Mark> marks = new ArrayList<>();
    private int reach = 1;
    private Laid latest = null;
    private int[] aged = null;
    // only to spare time: a MATCH hangs on two PRINTS and REACH alone
    private final Map<Integer, Laid> matches = new HashMap<>();

    private boolean isDark(int x, int y) {
        return x >= 0 && x < 16 && y >= 0 && y < 16 && dark[y][x];
    }

    int feed(int y, int bits) {
        if (y < 0 || y > 15 || bits < 0 || bits > 65535) {
            return -1;
        }
        for (int x = 0; x < 16; x++) {
            dark[y][x] = (bits >> (15 - x)) % 2 == 1;
        }
        return count(2);
    }

    int row(int y) {
        if (y < 0 || y > 15) {
            return -1;
        }
        int bits = 0;
        for (int x = 0; x < 16; x++) {
            bits = 2 * bits + (dark[y][x] ? 1 : 0);
        }
        return bits;
    }

    private List<int[]> darkNeighbours(int x, int y) {
        List<int[]> list = new ArrayList<>();
        for (int dy = -1; dy <= 1; dy++) {
            for (int dx = -1; dx <= 1; dx++) {
                if ((dx != 0 || dy != 0) && isDark(x + dx, y + dy)) {
                    list.add(new int[] {x + dx, y + dy});
                }
            }
        }
        return list;
    }

    private static boolean hangTogether(List<int[]> cells) {
        List<int[]> rest = new ArrayList<>(cells);
        List<int[]> reached = new ArrayList<>();
        reached.add(rest.remove(0));
        for (int i = 0; i < reached.size(); i++) {
            int[] from = reached.get(i);
            for (int k = rest.size() - 1; k >= 0; k--) {
                int[] to = rest.get(k);
                if (Math.abs(from[0] - to[0]) <= 1 && Math.abs(from[1] - to[1]) <= 1) {
                    reached.add(rest.remove(k));
                }
            }
        }
        return rest.isEmpty();
    }

    int thin() {
        int gone = 0;
        int before;
        do {
            before = gone;
            for (int y = 0; y < 16; y++) {
                for (int x = 0; x < 16; x++) {
                    if (!dark[y][x]) {
                        continue;
                    }
                    boolean open = !isDark(x - 1, y) || !isDark(x + 1, y) || !isDark(x, y - 1) || !isDark(x, y + 1);
                    List<int[]> around = darkNeighbours(x, y);
                    if (open && around.size() >= 2 && hangTogether(around)) {
                        dark[y][x] = false;
                        gone++;
                    }
                }
            }
        } while (gone > before);
        return gone;
    }

    int pieces(int what) {
        if (what != 0 && what != 1) {
            return -1;
        }
        int[][] label = new int[18][18];
        for (int y = 0; y < 18; y++) {
            for (int x = 0; x < 18; x++) {
                boolean counts = isDark(x - 1, y - 1) == (what == 0);
                label[y][x] = counts ? 1 + y * 18 + x : 0;
            }
        }
        // the least label spreads till nothing changes
        boolean changed = true;
        while (changed) {
            changed = false;
            for (int y = 0; y < 18; y++) {
                for (int x = 0; x < 18; x++) {
                    for (int yy = Math.max(0, y - 1); yy <= Math.min(17, y + 1); yy++) {
                        for (int xx = Math.max(0, x - 1); xx <= Math.min(17, x + 1); xx++) {
                            boolean near = what == 0 || x == xx || y == yy;
                            if (near && label[y][x] > 0 && label[yy][xx] > 0 && label[yy][xx] < label[y][x]) {
                                label[y][x] = label[yy][xx];
                                changed = true;
                            }
                        }
                    }
                }
            }
        }
        int number = 0;
        for (int y = 0; y < 18; y++) {
            for (int x = 0; x < 18; x++) {
                if (label[y][x] == 1 + y * 18 + x) {
                    number++;
                }
            }
        }
        return what == 0 ? number : number - 1;
    }

    private boolean isFork(int x, int y) {
        if (!isDark(x, y) || darkNeighbours(x, y).size() < 3) {
            return false;
        }
        return !isFork(x - 1, y) && !isFork(x - 1, y - 1) && !isFork(x, y - 1) && !isFork(x + 1, y - 1);
    }

    /** isFork() asks the same again and again, so the forks are kept for one reading. */
    private List<Point> points() {
        boolean[][] fork = new boolean[18][18];
        List<Point> list = new ArrayList<>();
        for (int y = 0; y < 16; y++) {
            for (int x = 0; x < 16; x++) {
                if (!dark[y][x]) {
                    continue;
                }
                int around = darkNeighbours(x, y).size();
                boolean ahead = fork[y + 1][x] || fork[y][x] || fork[y][x + 1] || fork[y][x + 2];
                if (around >= 3 && !ahead) {
                    fork[y + 1][x + 1] = true;
                }
                if (around < 2 || fork[y + 1][x + 1]) {
                    list.add(new Point(x, y, Math.min(around, 2)));
                }
            }
        }
        return list;
    }

    /** The FORKS by the rule's own words; dear on grids with much DARK. */
    int forksByRecursion() {
        int number = 0;
        for (int y = 0; y < 16; y++) {
            for (int x = 0; x < 16; x++) {
                number += isFork(x, y) ? 1 : 0;
            }
        }
        return number;
    }

    int print(int struck) {
        if (struck < 0 || struck > 65535) {
            return -1;
        }
        Box box = new Box(struck / 4096, struck / 256 % 16, struck / 16 % 16, struck % 16);
        if (box.x0 > box.x1 || box.y0 > box.y1) {
            return -1;
        }
        if (marks.size() == 24) {
            return -2;
        }
        Mark mark = new Mark();
        List<Point> all = points();
        mark.points.addAll(all.subList(0, Math.min(12, all.size())));
        mark.box = box;
        marks.add(mark);
        return marks.size() - 1;
    }

    private Mark mark(int number) {
        return number < 0 || number >= marks.size() ? null : marks.get(number);
    }

    int point(int print, int what) {
        Mark m = mark(print);
        if (m == null || what < -1 || what >= 3 * m.points.size()) {
            return -1;
        }
        if (what == -1) {
            return m.points.size();
        }
        Point p = m.points.get(what / 3);
        return what % 3 == 0 ? p.x : what % 3 == 1 ? p.y : p.kind;
    }

    int reach(int r) {
        if (r < 0 || r > 3) {
            return -1;
        }
        int was = reach;
        reach = r;
        return was;
    }

    private static Point moved(Point p, int q, int dx, int dy) {
        Point t = p;
        for (int i = 0; i < q; i++) {
            t = t.turned();
        }
        return new Point(t.x + dx, t.y + dy, t.kind);
    }

    private static Box moved(Box box, int q, int dx, int dy) {
        int[] xs = {box.x0, box.x1};
        int[] ys = {box.y0, box.y1};
        int x0 = 99, y0 = 99, x1 = -99, y1 = -99;
        for (int x : xs) {
            for (int y : ys) {
                Point corner = moved(new Point(x, y, 0), q, dx, dy);
                x0 = Math.min(x0, corner.x);
                x1 = Math.max(x1, corner.x);
                y0 = Math.min(y0, corner.y);
                y1 = Math.max(y1, corner.y);
            }
        }
        return new Box(x0, y0, x1, y1);
    }

    /** The most PAIRS of the POINTS i .. with those of b that are not used: all ways, each kept. */
    private int most(List<Point> a, List<Point> b, int i, int used, Map<Integer, Integer> kept) {
        if (i == a.size()) {
            return 0;
        }
        Integer before = kept.get(i * 4096 + used);
        if (before != null) {
            return before;
        }
        int most = most(a, b, i + 1, used, kept);
        for (int j = 0; j < b.size(); j++) {
            if ((used >> j) % 2 == 0 && a.get(i).mayPair(b.get(j), reach)) {
                most = Math.max(most, 1 + most(a, b, i + 1, used | 1 << j, kept));
            }
        }
        kept.put(i * 4096 + used, most);
        return most;
    }

    private int[] whichPairs(List<Point> a, List<Point> b, Map<Integer, Integer> kept) {
        int[] partner = new int[a.size()];
        int used = 0;
        for (int i = 0; i < a.size(); i++) {
            int due = most(a, b, i, used, kept);
            partner[i] = -1;
            for (int j = b.size() - 1; j >= 0; j--) {
                boolean may = (used >> j) % 2 == 0 && a.get(i).mayPair(b.get(j), reach);
                if (may && 1 + most(a, b, i + 1, used | 1 << j, kept) == due) {
                    partner[i] = j;
                }
            }
            if (partner[i] >= 0) {
                used |= 1 << partner[i];
            }
        }
        return partner;
    }

    private Laid laid(Mark a, Mark b, int q, int dx, int dy) {
        List<Point> moved = new ArrayList<>();
        boolean[] inside = new boolean[a.points.size()];
        int struck = 0;
        for (Point p : a.points) {
            Point there = moved(p, q, dx, dy);
            inside[moved.size()] = b.box.holds(there);
            struck += b.box.holds(there) ? 1 : 0;
            moved.add(there);
        }
        Box box = moved(a.box, q, dx, dy);
        for (Point p : b.points) {
            struck += box.holds(p) ? 1 : 0;
        }
        Map<Integer, Integer> kept = new HashMap<>();
        int pairs = most(moved, b.points, 0, 0, kept);
        int bare = Math.max(0, struck - 2 * pairs);
        int[] partner = whichPairs(moved, b.points, kept);
        return new Laid(true, q, dx, dy, pairs, bare, 10 * pairs - 3 * bare, partner, inside);
    }

    private boolean landsSome(Mark a, Mark b, int q, int dx, int dy) {
        for (Point p : a.points) {
            for (Point o : b.points) {
                if (moved(p, q, dx, dy).isOn(o)) {
                    return true;
                }
            }
        }
        return false;
    }

    private Laid matched(Mark a, Mark b) {
        int key = (marks.indexOf(a) * 24 + marks.indexOf(b)) * 4 + reach;
        if (!matches.containsKey(key)) {
            matches.put(key, searched(a, b));
        }
        return matches.get(key);
    }

    private Laid searched(Mark a, Mark b) {
        Laid best = new Laid(false, 0, 0, 0, 0, 0, 0, new int[0], new boolean[0]);
        for (int q = 0; q < 4; q++) {
            for (int dy = -15; dy <= 15; dy++) {
                for (int dx = -15; dx <= 15; dx++) {
                    if (landsSome(a, b, q, dx, dy)) {
                        Laid here = laid(a, b, q, dx, dy);
                        if (!best.found || here.score > best.score) {
                            best = here;
                        }
                    }
                }
            }
        }
        return best;
    }

    int lay(int a, int b, int q, int dx, int dy) {
        boolean wrong = q < 0 || q > 3 || Math.abs((long) dx) > 30 || Math.abs((long) dy) > 30;
        if (mark(a) == null || mark(b) == null || wrong) {
            return -1000;
        }
        latest = laid(mark(a), mark(b), q, dx, dy);
        return latest.score;
    }

    int match(int a, int b) {
        if (mark(a) == null || mark(b) == null) {
            return -1000;
        }
        latest = matched(mark(a), mark(b));
        return latest.score;
    }

    int told(int what) {
        if (latest == null || what < 0 || what > 6) {
            return -1000;
        }
        int[] all = {latest.pairs, latest.bare, latest.score, latest.q, latest.dx, latest.dy, latest.found ? 1 : 0};
        return all[what];
    }

    int pair(int i) {
        return latest == null || i < 0 || i >= latest.partner.length ? -1 : latest.partner[i];
    }

    private List<Mark> marksOf(int tool) {
        List<Mark> list = new ArrayList<>();
        for (Mark m : marks) {
            if (m.tool == tool) {
                list.add(m);
            }
        }
        list.sort((m, n) -> Integer.compare(m.year, n.year));
        return list;
    }

    int keep(int tool, int print, int year) {
        if (tool < 0 || tool > 9 || mark(print) == null || year < 0 || year > 9999) {
            return -1;
        }
        for (Mark m : marksOf(tool)) {
            if (m.year == year) {
                return -3;
            }
        }
        if (mark(print).tool >= 0) {
            return -3;
        }
        mark(print).tool = tool;
        mark(print).year = year;
        return marksOf(tool).size();
    }

    int part(int print) {
        if (mark(print) == null) {
            return -1;
        }
        if (mark(print).tool < 0) {
            return -4;
        }
        mark(print).tool = -1;
        mark(print).year = -1;
        return 1;
    }

    int of(int print, int what) {
        if (mark(print) == null || what < 0 || what > 1) {
            return -1000;
        }
        return what == 0 ? mark(print).tool : mark(print).year;
    }

    int melt(int a, int b) {
        if (a < 0 || a > 9 || b < 0 || b > 9 || a == b) {
            return -1;
        }
        for (Mark m : marksOf(a)) {
            for (Mark n : marksOf(b)) {
                if (m.year == n.year) {
                    return -3;
                }
            }
        }
        for (Mark n : marksOf(b)) {
            n.tool = a;
        }
        return marksOf(a).size();
    }

    int like(int print) {
        if (mark(print) == null) {
            return -1;
        }
        int best = -4;
        int greatest = Integer.MIN_VALUE;
        for (int tool = 0; tool < 10; tool++) {
            for (Mark m : marksOf(tool)) {
                if (m != mark(print) && matched(m, mark(print)).score > greatest) {
                    greatest = matched(m, mark(print)).score;
                    best = tool;
                }
            }
        }
        return best;
    }

    int strangers(int score, int what) {
        if (what < 0 || what > 1) {
            return -1;
        }
        int[] number = new int[2];
        for (int a = 0; a < marks.size(); a++) {
            for (int b = a + 1; b < marks.size(); b++) {
                Mark m = marks.get(a);
                Mark n = marks.get(b);
                if (m.tool >= 0 && n.tool >= 0 && m.tool != n.tool) {
                    number[1]++;
                    number[0] += what == 0 && matched(m, n).score >= score ? 1 : 0;
                }
            }
        }
        return number[what];
    }

    /** Each FLAW of a TOOL as {POINT, COMING}, by POINTS. */
    private List<int[]> flawList(int tool) {
        List<Mark> all = marksOf(tool);
        Mark newest = all.remove(all.size() - 1);
        List<Laid> laid = new ArrayList<>();
        for (Mark m : all) {
            laid.add(matched(newest, m));
        }
        List<int[]> list = new ArrayList<>();
        for (int i = 0; i < newest.points.size(); i++) {
            boolean flaw = false;
            int comes = newest.year;
            // from the latest YEAR back: what has it comes earlier and earlier, till one lacks it
            for (int k = all.size() - 1; k >= 0 && !flaw; k--) {
                if (laid.get(k).lacks(i)) {
                    flaw = true;
                } else if (laid.get(k).has(i)) {
                    comes = all.get(k).year;
                }
            }
            if (flaw) {
                list.add(new int[] {i, comes});
            }
        }
        return list;
    }

    int flaws(int tool) {
        if (tool < 0 || tool > 9) {
            return -1;
        }
        return marksOf(tool).size() < 2 ? -4 : flawList(tool).size();
    }

    int flaw(int tool, int i, int what) {
        if (tool < 0 || tool > 9 || i < 0 || what < 0 || what > 1) {
            return -1;
        }
        if (marksOf(tool).size() < 2) {
            return -4;
        }
        List<int[]> list = flawList(tool);
        return i >= list.size() ? -1 : list.get(i)[what];
    }

    int age(int print, int tool) {
        if (mark(print) == null || tool < 0 || tool > 9) {
            return -1;
        }
        List<Mark> all = marksOf(tool);
        if (all.size() < 2 || mark(print).tool == tool) {
            return -4;
        }
        Laid on = matched(all.get(all.size() - 1), mark(print));
        int[] years = {0, 10000};
        for (int[] flaw : flawList(tool)) {
            if (on.has(flaw[0])) {
                years[0] = Math.max(years[0], flaw[1]);
            }
            if (on.lacks(flaw[0])) {
                years[1] = Math.min(years[1], flaw[1]);
            }
        }
        aged = years;
        return years[0] >= years[1] ? 0 : 1;
    }

    int struck(int what) {
        return aged == null || what < 0 || what > 1 ? -1 : aged[what];
    }

    int count(int what) {
        switch (what) {
            case 0:
                return marks.size();
            case 1:
                int tools = 0;
                for (int tool = 0; tool < 10; tool++) {
                    tools += marksOf(tool).isEmpty() ? 0 : 1;
                }
                return tools;
            case 2:
                int cells = 0;
                for (boolean[] line : dark) {
                    for (boolean cell : line) {
                        cells += cell ? 1 : 0;
                    }
                }
                return cells;
            case 3:
                return points().size();
            default:
                return -1;
        }
    }
}
