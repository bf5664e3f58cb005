import java.util.ArrayList;
import java.util.Arrays;
import java.util.List;
import java.util.function.Supplier;

/**
 * "What is refused changes nothing", for all promises: a cabinet that refused a call shows the same as one on which
 * the call was not made at all; so does one that was only asked.
 */
public final class RefusalTest {
    private static final Check CHECK = new Check("RefusalTest");
    private static final int NONE = MarkCabinet.NONE, FULL = MarkCabinet.FULL;
    private static final int THERE = MarkCabinet.THERE, EMPTY = MarkCabinet.EMPTY, REFUSED = -1000;
    // what the document lets an object answer, less the calls that make a cabinet and the one that is held against it
    private static final int CALLS_LEFT = 512 - 120;
    private static final int[][] POINTS = {{4, 1}, {6, 1}, {15, 1}, {0, 4}, {8, 9}, {2, 14}, {14, 14}};

    private interface Call {
        int on(MarkCabinet c);
    }

    private final String name;
    private final Supplier<MarkCabinet> maker;
    private final List<String> untouched;

    private RefusalTest(String name, Supplier<MarkCabinet> maker) {
        this.name = name;
        this.maker = maker;
        this.untouched = Shown.by(maker.get(), CALLS_LEFT);
    }

    public static void main(String[] args) {
        RefusalTest empty = new RefusalTest("an empty cabinet", MarkCabinet::new);
        RefusalTest some = new RefusalTest("some prints", RefusalTest::some);
        RefusalTest full = new RefusalTest("a full cabinet", RefusalTest::full);
        for (RefusalTest test : List.of(empty, some, full)) {
            test.promises2To5AndReach();
            test.promise6WrongParts();
            test.promises13To21WrongTools();
            test.wrongWhats();
        }
        empty.wrongPrints(0);
        some.wrongPrints(5);
        full.wrongPrints(24);
        empty.promises11And12And22BeforeAny();
        empty.promises16To21OfEmptyTools();
        some.promises7To12WrongNumbers();
        some.promises13And16There();
        some.promises14To21Empty();
        full.promise6Full();
        some.asking();
        some.changesOfTheirOwn();
        CHECK.end();
    }

    /** Tool 1 has two flaws, tool 2 one print, print 3 is of none; told() and struck() have something to tell. */
    private static MarkCabinet some() {
        MarkCabinet c = new MarkCabinet();
        c.reach(2);
        int[] sizes = {5, 6, 7, 6};
        for (int size : sizes) {
            Draw.islands(c, size == 7 ? 0x01FF : Draw.WHOLE, Arrays.copyOf(POINTS, size));
        }
        Draw.onto(c, "", ".####", ".#..#", ".####", "", "......###", "......###", "......###");
        c.print(0x1247);
        c.keep(1, 0, 1990);
        c.keep(1, 1, 2000);
        c.keep(1, 2, 2010);
        c.keep(2, 4, 2000);
        c.age(3, 1);
        c.lay(2, 3, 0, 1, -1);
        return c;
    }

    private static MarkCabinet full() {
        MarkCabinet c = new MarkCabinet();
        c.feed(3, 0x8421);
        for (int k = 0; k < 24; k++) {
            c.feed(8, 0x4000 >> k % 13);
            c.print(k % 2 == 0 ? Draw.WHOLE : 0x123F);
            c.keep(k % 10, k, 100 + k);
        }
        c.match(22, 23);
        return c;
    }

    private void changesNothing(String call, int answer, Call calling) {
        MarkCabinet c = maker.get();
        CHECK.due(name + ": " + call, answer, calling.on(c));
        CHECK.due(name + ": what is shown behind " + call, 0, differing(c).size());
    }

    /** What a cabinet shows now and did not show before. */
    private List<String> differing(MarkCabinet c) {
        List<String> shown = Shown.by(c, CALLS_LEFT);
        List<String> list = new ArrayList<>();
        for (int i = 0; i < Math.max(shown.size(), untouched.size()); i++) {
            String now = i < shown.size() ? shown.get(i) : "nothing";
            if (i >= untouched.size() || !now.equals(untouched.get(i))) {
                list.add(now);
            }
        }
        return list;
    }

    private void promises2To5AndReach() {
        for (int wrong : new int[] {-1, 16}) {
            changesNothing("feed(" + wrong + ", 5)", NONE, c -> c.feed(wrong, 5));
            changesNothing("row(" + wrong + ")", NONE, c -> c.row(wrong));
        }
        for (int bits : new int[] {-1, 65536}) {
            changesNothing("feed(0, " + bits + ")", NONE, c -> c.feed(0, bits));
            changesNothing("feed(15, " + bits + ")", NONE, c -> c.feed(15, bits));
        }
        for (int reach : new int[] {-1, 4}) {
            changesNothing("reach(" + reach + ")", NONE, c -> c.reach(reach));
        }
    }

    private void promise6WrongParts() {
        for (int struck : new int[] {-1, 65536, 0x100F, 0xF0EF, 0x01F0, 0x0FFE}) {
            changesNothing("print(" + struck + ")", NONE, c -> c.print(struck));
        }
    }

    private void wrongWhats() {
        for (int what : new int[] {-1, 2}) {
            changesNothing("pieces(" + what + ")", NONE, c -> c.pieces(what));
            changesNothing("of(0, " + what + ")", REFUSED, c -> c.of(0, what));
            changesNothing("strangers(0, " + what + ")", NONE, c -> c.strangers(0, what));
            changesNothing("flaw(1, 0, " + what + ")", NONE, c -> c.flaw(1, 0, what));
            changesNothing("struck(" + what + ")", NONE, c -> c.struck(what));
        }
        for (int what : new int[] {-1, 4}) {
            changesNothing("count(" + what + ")", NONE, c -> c.count(what));
        }
        for (int what : new int[] {-1, 7}) {
            changesNothing("told(" + what + ")", REFUSED, c -> c.told(what));
        }
        for (int i : new int[] {-1, 12}) {
            changesNothing("pair(" + i + ")", NONE, c -> c.pair(i));
        }
    }

    private void wrongPrints(int prints) {
        for (int wrong : new int[] {-1, prints}) {
            changesNothing("point(" + wrong + ", -1)", NONE, c -> c.point(wrong, -1));
            changesNothing("lay(" + wrong + ", 0, 0, 0, 0)", REFUSED, c -> c.lay(wrong, 0, 0, 0, 0));
            changesNothing("lay(0, " + wrong + ", 0, 0, 0)", REFUSED, c -> c.lay(0, wrong, 0, 0, 0));
            changesNothing("match(" + wrong + ", 0)", REFUSED, c -> c.match(wrong, 0));
            changesNothing("match(0, " + wrong + ")", REFUSED, c -> c.match(0, wrong));
            changesNothing("keep(0, " + wrong + ", 5)", NONE, c -> c.keep(0, wrong, 5));
            changesNothing("part(" + wrong + ")", NONE, c -> c.part(wrong));
            changesNothing("of(" + wrong + ", 0)", REFUSED, c -> c.of(wrong, 0));
            changesNothing("like(" + wrong + ")", NONE, c -> c.like(wrong));
            changesNothing("age(" + wrong + ", 1)", NONE, c -> c.age(wrong, 1));
        }
    }

    private void promises13To21WrongTools() {
        for (int wrong : new int[] {-1, 10}) {
            changesNothing("keep(" + wrong + ", 3, 5)", NONE, c -> c.keep(wrong, 3, 5));
            changesNothing("melt(" + wrong + ", 1)", NONE, c -> c.melt(wrong, 1));
            changesNothing("melt(1, " + wrong + ")", NONE, c -> c.melt(1, wrong));
            changesNothing("flaws(" + wrong + ")", NONE, c -> c.flaws(wrong));
            changesNothing("flaw(" + wrong + ", 0, 0)", NONE, c -> c.flaw(wrong, 0, 0));
            changesNothing("age(3, " + wrong + ")", NONE, c -> c.age(3, wrong));
        }
        for (int year : new int[] {-1, 10000}) {
            changesNothing("keep(5, 3, " + year + ")", NONE, c -> c.keep(5, 3, year));
        }
        changesNothing("melt(1, 1)", NONE, c -> c.melt(1, 1));
    }

    private void promises11And12And22BeforeAny() {
        for (int k = 0; k <= 6; k++) {
            int what = k;
            changesNothing("told(" + what + ")", REFUSED, c -> c.told(what));
            changesNothing("pair(" + what + ")", NONE, c -> c.pair(what));
        }
        changesNothing("struck(0)", NONE, c -> c.struck(0));
        changesNothing("struck(1)", NONE, c -> c.struck(1));
    }

    private void promises16To21OfEmptyTools() {
        for (int k = 0; k <= 9; k++) {
            int tool = k;
            changesNothing("flaws(" + tool + ")", EMPTY, c -> c.flaws(tool));
            changesNothing("flaw(" + tool + ", 0, 0)", EMPTY, c -> c.flaw(tool, 0, 0));
            changesNothing("melt of two empty tools", 0, c -> c.melt(tool, 9 - tool));
        }
    }

    private void promises7To12WrongNumbers() {
        for (int what : new int[] {-2, 15}) {
            changesNothing("point(0, " + what + ")", NONE, c -> c.point(0, what));
        }
        for (int q : new int[] {-1, 4}) {
            changesNothing("lay(0, 1, " + q + ", 0, 0)", REFUSED, c -> c.lay(0, 1, q, 0, 0));
        }
        for (int shift : new int[] {-31, 31}) {
            changesNothing("lay(0, 1, 0, " + shift + ", 0)", REFUSED, c -> c.lay(0, 1, 0, shift, 0));
            changesNothing("lay(0, 1, 0, 0, " + shift + ")", REFUSED, c -> c.lay(0, 1, 0, 0, shift));
        }
        changesNothing("pair(7)", NONE, c -> c.pair(7));
        changesNothing("flaw(1, -1, 0)", NONE, c -> c.flaw(1, -1, 0));
        changesNothing("flaw(1, 2, 0)", NONE, c -> c.flaw(1, 2, 0));
    }

    private void promises13And16There() {
        changesNothing("keep(1, 0, 5): it is of that tool", THERE, c -> c.keep(1, 0, 5));
        changesNothing("keep(5, 0, 5): it is of another tool", THERE, c -> c.keep(5, 0, 5));
        changesNothing("keep(1, 3, 2010): that YEAR is there", THERE, c -> c.keep(1, 3, 2010));
        changesNothing("melt(1, 2)", THERE, c -> c.melt(1, 2));
        changesNothing("melt(2, 1)", THERE, c -> c.melt(2, 1));
    }

    private void promises14To21Empty() {
        changesNothing("part(3)", EMPTY, c -> c.part(3));
        changesNothing("flaws(0)", EMPTY, c -> c.flaws(0));
        changesNothing("flaws(2)", EMPTY, c -> c.flaws(2));
        changesNothing("flaw(2, 0, 0)", EMPTY, c -> c.flaw(2, 0, 0));
        changesNothing("age(0, 1): it is of that tool", EMPTY, c -> c.age(0, 1));
        changesNothing("age(3, 0): a tool without prints", EMPTY, c -> c.age(3, 0));
        changesNothing("age(3, 2): a tool with one print", EMPTY, c -> c.age(3, 2));
    }

    private void promise6Full() {
        for (int struck : new int[] {0, Draw.WHOLE, 65535}) {
            changesNothing("print(" + struck + ")", FULL, c -> c.print(struck));
        }
    }

    /** Calls that only tell something. */
    private void asking() {
        changesNothing("row(1)", Draw.bits(".####"), c -> c.row(1));
        changesNothing("pieces(0)", 2, c -> c.pieces(0));
        changesNothing("pieces(1)", 1, c -> c.pieces(1));
        changesNothing("point(2, -1)", 7, c -> c.point(2, -1));
        changesNothing("point(2, 0)", 4, c -> c.point(2, 0));
        changesNothing("told(0)", 6, c -> c.told(0));
        changesNothing("pair(5)", 5, c -> c.pair(5));
        changesNothing("of(4, 1)", 2000, c -> c.of(4, 1));
        changesNothing("like(3)", 1, c -> c.like(3));
        changesNothing("strangers(-100, 0)", 3, c -> c.strangers(-100, 0));
        changesNothing("strangers(0, 1)", 3, c -> c.strangers(0, 1));
        changesNothing("flaws(1)", 2, c -> c.flaws(1));
        changesNothing("flaw(1, 1, 1)", 2010, c -> c.flaw(1, 1, 1));
        changesNothing("struck(0)", 2000, c -> c.struck(0));
        changesNothing("count(3)", 7, c -> c.count(3));
    }

    /** What match(), lay(), age(), reach() and thin() do is shown where the document says, and nowhere else. */
    private void changesOfTheirOwn() {
        changesOnly("match(0, 0)", c -> c.match(0, 0), "told", "pair");
        changesOnly("lay(0, 4, 3, 2, 1)", c -> c.lay(0, 4, 3, 2, 1), "told", "pair");
        changesOnly("age(4, 1)", c -> c.age(4, 1), "struck");
        changesOnly("reach(2)", c -> c.reach(2));
        changesOnly("thin()", c -> c.thin(), "row", "count(2)", "count(3)", "thin");
        changesOnly("feed(15, 1)", c -> c.feed(15, 1), "row(15)", "count(2)", "count(3)", "pieces(0)");
    }

    private void changesOnly(String call, Call calling, String... heads) {
        MarkCabinet c = maker.get();
        calling.on(c);
        for (String now : differing(c)) {
            CHECK.holds(name + ": " + call + " changes " + now, Arrays.stream(heads).anyMatch(now::startsWith));
        }
    }
}
