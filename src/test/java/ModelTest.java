/** Runs of calls that a fixed row of numbers chooses: each answer is held against the Model's. */
public final class ModelTest {
    private static final Check CHECK = new Check("ModelTest");
    private static final int CALLS = 512;

    private final MarkCabinet cabinet = new MarkCabinet();
    private final Model model = new Model();
    private final int run;
    private long state;
    private int calls = 0;

    private ModelTest(int run) {
        this.run = run;
        this.state = run * 7919L + 17;
    }

    public static void main(String[] args) {
        for (int run = 0; run < 160; run++) {
            new ModelTest(run).play();
        }
        forks();
        CHECK.end();
    }

    private static void forks() {
        for (int run = 0; run < 200; run++) {
            ModelTest test = new ModelTest(run);
            // lines of three rows, with rows between them, keep the rule's recursion short
            for (int y = 0; y < 16; y++) {
                test.feed(y, y % 4 == 3 ? 0 : test.below(65536));
            }
            int forks = test.model.forksByRecursion();
            int others = test.cabinet.count(3);
            for (int y = 0; y < 16; y++) {
                others -= Integer.bitCount(test.lonely(y));
            }
            CHECK.due("FORKS by the rule's own words", forks, others);
        }
    }

    /** The cells of a row with fewer than two DARK NEIGHBOURS, by their bits. */
    private int lonely(int y) {
        int bits = 0;
        for (int x = 0; x < 16; x++) {
            int around = 0;
            for (int k = 0; k < 9; k++) {
                int xx = x + k % 3 - 1;
                int yy = y + k / 3 - 1;
                boolean inGrid = xx >= 0 && xx < 16 && yy >= 0 && yy < 16;
                around += k != 4 && inGrid && (model.row(yy) >> 15 - xx & 1) == 1 ? 1 : 0;
            }
            if ((model.row(y) >> 15 - x & 1) == 1 && around < 2) {
                bits |= 1 << 15 - x;
            }
        }
        return bits;
    }

    private int below(int bound) {
        state = state * 6364136223846793005L + 1442695040888963407L;
        return (int) ((state >>> 33) % bound);
    }

    private boolean chance(int percent) {
        return below(100) < percent;
    }

    private void same(String call, int want, int got) {
        CHECK.due("run " + run + ", call " + calls + ": " + call, want, got);
        calls++;
    }

    private void feed(int y, int bits) {
        same("feed(" + y + ", " + bits + ")", model.feed(y, bits), cabinet.feed(y, bits));
    }

    private void play() {
        int prints = run % 8 == 0 ? 25 : 3 + below(8);
        for (int k = 0; k < prints && calls < CALLS - 60; k++) {
            drawSomething(k);
            makePrint();
            if (chance(70)) {
                keepIt(k);
            }
        }
        while (calls < CALLS - 8) {
            callSomething();
        }
    }

    private void drawSomething(int k) {
        int manner = (run + k) % 5;
        if (k > 0 && (run % 2 == 0 || run % 8 == 0)) {
            // a print much like the one before: a cell or two are other ones
            int times = 1 + below(2);
            for (int i = 0; i < times; i++) {
                int y = below(16);
                feed(y, model.row(y) ^ 1 << below(16));
            }
        } else if (manner == 0) {
            drawRows(chance(50) ? 12 : 30);
        } else if (manner == 1) {
            drawIslands();
        } else if (manner == 2) {
            drawRows(60);
        } else {
            drawBars();
        }
        if (chance(60)) {
            same("pieces(0)", model.pieces(0), cabinet.pieces(0));
            same("pieces(1)", model.pieces(1), cabinet.pieces(1));
        }
        if (manner > 1 || chance(40)) {
            same("thin()", model.thin(), cabinet.thin());
        }
        same("count(3)", model.count(3), cabinet.count(3));
    }

    private void drawRows(int percent) {
        for (int y = 0; y < 16; y++) {
            int bits = 0;
            for (int x = 0; x < 16; x++) {
                bits = 2 * bits + (chance(percent) ? 1 : 0);
            }
            feed(y, bits);
        }
    }

    private void drawIslands() {
        int column = below(16);
        for (int y = 0; y < 16; y++) {
            column = (column + 3 + below(9)) % 16;
            feed(y, chance(60) ? 1 << column : 0);
        }
    }

    private void drawBars() {
        int[] rows = new int[16];
        for (int k = 0; k < 4; k++) {
            int x = below(12);
            int y = below(12);
            int wide = 1 + below(8);
            int high = 1 + below(k % 2 == 0 ? 3 : 9);
            for (int yy = y; yy < Math.min(16, y + high); yy++) {
                rows[yy] |= ((1 << wide) - 1 << x) & 65535;
            }
        }
        for (int y = 0; y < 16; y++) {
            feed(y, rows[y]);
        }
    }

    private void makePrint() {
        int struck = 0x00FF;
        if (chance(50)) {
            struck = below(8) * 4096 + below(8) * 256 + (8 + below(8)) * 16 + 8 + below(8);
        } else if (chance(20)) {
            struck = below(65536);
        }
        same("print(" + struck + ")", model.print(struck), cabinet.print(struck));
    }

    private void keepIt(int print) {
        int tool = below(3) * 4;
        int year = chance(90) ? below(10000) : below(2) * 9999;
        keep(tool, print, year);
    }

    private void keep(int tool, int print, int year) {
        same("keep(" + tool + ", " + print + ", " + year + ")",
            model.keep(tool, print, year), cabinet.keep(tool, print, year));
    }

    /** Mostly a number that is taken, now and then one beside it. */
    private int number(int least, int most) {
        if (chance(96)) {
            return least + below(most - least + 1);
        }
        int[] odd = {least - 1, most + 1, Integer.MIN_VALUE, Integer.MAX_VALUE};
        return odd[below(4)];
    }

    private int anyPrint() {
        return number(0, Math.max(0, model.count(0) - 1));
    }

    private int anyTool() {
        return chance(90) ? below(3) * 4 : number(0, 9);
    }

    private void callSomething() {
        switch (below(14)) {
            case 0 -> callMatch();
            case 1 -> callLay();
            case 2 -> callAge();
            case 3 -> callFlaws();
            case 4 -> keep(anyTool(), anyPrint(), number(0, 9999));
            case 5 -> callOf();
            case 6 -> callPart();
            case 7 -> callMelt();
            case 8 -> callLike();
            case 9 -> callStrangers();
            case 10 -> callReach();
            case 11 -> callPoint();
            case 12 -> callCount();
            default -> callGrid();
        }
    }

    private void callMatch() {
        int a = anyPrint();
        int b = anyPrint();
        same("match(" + a + ", " + b + ")", model.match(a, b), cabinet.match(a, b));
        tellAll();
    }

    private void callLay() {
        int a = anyPrint();
        int b = anyPrint();
        int q = number(0, 3);
        int dx = chance(80) ? below(7) - 3 : number(-30, 30);
        int dy = chance(80) ? below(7) - 3 : number(-30, 30);
        same("lay(" + a + ", " + b + ", " + q + ", " + dx + ", " + dy + ")",
            model.lay(a, b, q, dx, dy), cabinet.lay(a, b, q, dx, dy));
        tellAll();
    }

    private void tellAll() {
        for (int what = -1; what <= 7 && calls < CALLS; what++) {
            same("told(" + what + ")", model.told(what), cabinet.told(what));
        }
        for (int i = -1; i <= 12 && calls < CALLS; i++) {
            same("pair(" + i + ")", model.pair(i), cabinet.pair(i));
        }
    }

    private void callAge() {
        int print = anyPrint();
        int tool = anyTool();
        same("age(" + print + ", " + tool + ")", model.age(print, tool), cabinet.age(print, tool));
        int what = number(0, 1);
        same("struck(" + what + ")", model.struck(what), cabinet.struck(what));
        same("struck(1)", model.struck(1), cabinet.struck(1));
        same("told(2)", model.told(2), cabinet.told(2));
    }

    private void callFlaws() {
        int tool = anyTool();
        same("flaws(" + tool + ")", model.flaws(tool), cabinet.flaws(tool));
        int i = number(0, 3);
        int what = number(0, 1);
        same("flaw(" + tool + ", " + i + ", " + what + ")", model.flaw(tool, i, what), cabinet.flaw(tool, i, what));
        same("flaw(" + tool + ", " + i + ", 1)", model.flaw(tool, i, 1), cabinet.flaw(tool, i, 1));
    }

    private void callOf() {
        int print = anyPrint();
        int what = number(0, 1);
        same("of(" + print + ", " + what + ")", model.of(print, what), cabinet.of(print, what));
    }

    private void callPart() {
        int print = anyPrint();
        if (chance(40)) {
            same("part(" + print + ")", model.part(print), cabinet.part(print));
        }
    }

    private void callMelt() {
        int a = anyTool();
        int b = anyTool();
        if (chance(30)) {
            same("melt(" + a + ", " + b + ")", model.melt(a, b), cabinet.melt(a, b));
        }
    }

    private void callLike() {
        int print = anyPrint();
        if (model.count(0) < 12 || chance(20)) {
            same("like(" + print + ")", model.like(print), cabinet.like(print));
        }
    }

    private void callStrangers() {
        int score = below(120) - 40;
        int what = number(0, 1);
        if (model.count(0) < 12 || what != 0 || calls < 460 && chance(10)) {
            same("strangers(" + score + ", " + what + ")",
                model.strangers(score, what), cabinet.strangers(score, what));
        }
    }

    private void callReach() {
        int r = number(0, 3);
        same("reach(" + r + ")", model.reach(r), cabinet.reach(r));
        same("told(0)", model.told(0), cabinet.told(0));
    }

    private void callPoint() {
        int print = anyPrint();
        int what = number(-1, 36);
        same("point(" + print + ", " + what + ")", model.point(print, what), cabinet.point(print, what));
    }

    private void callCount() {
        int what = number(0, 3);
        same("count(" + what + ")", model.count(what), cabinet.count(what));
    }

    private void callGrid() {
        int y = number(0, 15);
        same("row(" + y + ")", model.row(y), cabinet.row(y));
        int bits = number(0, 65535);
        feed(y, bits);
        int what = number(0, 1);
        same("pieces(" + what + ")", model.pieces(what), cabinet.pieces(what));
        if (chance(40)) {
            same("thin()", model.thin(), cabinet.thin());
        }
        makePrint();
    }
}
