/** Promises 6 to 8: print, point, reach. */
public final class PrintTest {
    private static final Check CHECK = new Check("PrintTest");
    private static final int[] FAR = {-2, Integer.MIN_VALUE, Integer.MAX_VALUE};

    public static void main(String[] args) {
        printNumbers();
        struckParts();
        fullCabinet();
        twelvePointsAndMore();
        printsStayAsTheyWere();
        pointRefuses();
        reachIsTold();
        CHECK.end();
    }

    private static void printNumbers() {
        MarkCabinet c = new MarkCabinet();
        CHECK.due("a print without POINTS", 0, c.print(Draw.WHOLE));
        CHECK.due("its POINTS", 0, c.point(0, -1));
        c.feed(0, 0x8000);
        c.feed(15, 1);
        CHECK.due("a print of the corners", 1, c.print(Draw.WHOLE));
        int[] due = {0, 0, 0, 15, 15, 0};
        CHECK.due("its POINTS", 2, c.point(1, -1));
        for (int what = 0; what < due.length; what++) {
            CHECK.due("point(1, " + what + ")", due[what], c.point(1, what));
        }
        CHECK.due("count(0)", 2, c.count(0));
    }

    private static void struckParts() {
        MarkCabinet c = new MarkCabinet();
        int[] taken = {0, 65535, 0x1111, 0x01F1, 0x1F1F, 0x7E8F};
        for (int k = 0; k < taken.length; k++) {
            CHECK.due("print(" + taken[k] + ")", k, c.print(taken[k]));
        }
        int[] wrong = {-1, 65536, -2, Integer.MIN_VALUE, Integer.MAX_VALUE, 0x100F, 0x01F0, 0x8F7F, 0x0FFE, 0xF000};
        for (int struck : wrong) {
            CHECK.due("print(" + struck + ")", -1, c.print(struck));
        }
        CHECK.due("count(0) behind refusals", taken.length, c.count(0));
    }

    private static void fullCabinet() {
        MarkCabinet c = new MarkCabinet();
        for (int k = 0; k < 24; k++) {
            c.feed(0, k % 2 == 0 ? 0x8000 : 0);
            CHECK.due("print " + k, k, c.print(Draw.WHOLE));
        }
        CHECK.due("one more", -2, c.print(Draw.WHOLE));
        CHECK.due("NONE is named first", -1, c.print(0xF000));
        CHECK.due("count(0)", 24, c.count(0));
        CHECK.due("the last print stays", 0, c.point(23, -1));
        CHECK.due("there is no print 24", -1, c.point(24, -1));
        CHECK.due("the last but one stays", 1, c.point(22, -1));
    }

    private static void twelvePointsAndMore() {
        MarkCabinet c = new MarkCabinet();
        c.feed(1, 0xAAAA);
        c.feed(3, 0xA000);
        CHECK.due("ten POINTS", 10, c.count(3));
        c.feed(3, 0xAA00);
        CHECK.due("twelve POINTS", 12, c.count(3));
        c.print(Draw.WHOLE);
        CHECK.due("all of them are the print's", 12, c.point(0, -1));
        c.feed(3, 0xAA80);
        c.feed(5, 0x8000);
        CHECK.due("fourteen POINTS", 14, c.count(3));
        c.print(Draw.WHOLE);
        CHECK.due("the first twelve are the print's", 12, c.point(1, -1));
        CHECK.due("the last one's column", 6, c.point(1, 33));
        CHECK.due("the last one's row", 3, c.point(1, 34));
        CHECK.due("the last one's KIND", 0, c.point(1, 35));
        CHECK.due("there is no more", -1, c.point(1, 36));
    }

    private static void printsStayAsTheyWere() {
        MarkCabinet c = new MarkCabinet();
        Draw.onto(c, "", ".##", ".##");
        CHECK.due("print of a square", 0, c.print(Draw.WHOLE));
        CHECK.due("it is not thinned by this", 4, c.count(2));
        CHECK.due("its POINTS: a FORK", 1, c.point(0, -1));
        CHECK.due("its KIND", 2, c.point(0, 2));
        c.thin();
        CHECK.due("print of a line", 1, c.print(Draw.WHOLE));
        CHECK.due("its POINTS: two ENDS", 2, c.point(1, -1));
        CHECK.due("an END's KIND", 1, c.point(1, 5));
        CHECK.due("the first print stays", 1, c.point(0, -1));
        CHECK.due("its FORK stays", 2, c.point(0, 2));
    }

    private static void pointRefuses() {
        MarkCabinet c = new MarkCabinet();
        c.feed(4, 0x0100);
        c.print(Draw.WHOLE);
        for (int number : FAR) {
            CHECK.due("point(" + number + ", -1)", -1, c.point(number, -1));
            CHECK.due("point(0, " + number + ")", -1, c.point(0, number));
        }
        CHECK.due("point(-1, -1)", -1, c.point(-1, -1));
        CHECK.due("point(1, -1)", -1, c.point(1, -1));
        CHECK.due("point(0, 3)", -1, c.point(0, 3));
        CHECK.due("point(0, 0)", 7, c.point(0, 0));
        CHECK.due("point(0, 1)", 4, c.point(0, 1));
    }

    private static void reachIsTold() {
        MarkCabinet c = new MarkCabinet();
        CHECK.due("reach at first", 1, c.reach(3));
        CHECK.due("reach(4)", -1, c.reach(4));
        CHECK.due("reach(-1)", -1, c.reach(-1));
        for (int number : FAR) {
            CHECK.due("reach(" + number + ")", -1, c.reach(number));
        }
        CHECK.due("reach behind refusals", 3, c.reach(0));
        CHECK.due("reach(2)", 0, c.reach(2));
        CHECK.due("reach(2) again", 2, c.reach(2));
    }
}
