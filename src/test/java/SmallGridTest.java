/**
 * Promises 4, 5, 6, 7 and 23: every picture of three rows of three cells, in the middle, at each edge and in each
 * corner of the grid, is held against the Model.
 */
public final class SmallGridTest {
    private static final Check CHECK = new Check("SmallGridTest");
    private static final int[] PLACES = {0, 6, 13};

    public static void main(String[] args) {
        for (int x : PLACES) {
            for (int y : PLACES) {
                for (int picture = 0; picture < 512; picture++) {
                    compare(x, y, picture);
                }
            }
        }
        CHECK.end();
    }

    private static void compare(int x, int y, int picture) {
        String of = "picture " + picture + " at " + x + ", " + y + ": ";
        MarkCabinet cabinet = new MarkCabinet();
        Model model = new Model();
        for (int k = 0; k < 3; k++) {
            int bits = (picture >> 3 * k & 7) << 13 - x;
            CHECK.due(of + "feed", model.feed(y + k, bits), cabinet.feed(y + k, bits));
        }
        comparePoints(of + "as it is: ", cabinet, model);
        comparePieces(of + "as it is: ", cabinet, model);
        CHECK.due(of + "thin", model.thin(), cabinet.thin());
        for (int k = 0; k < 3; k++) {
            CHECK.due(of + "row " + (y + k), model.row(y + k), cabinet.row(y + k));
        }
        comparePoints(of + "thinned: ", cabinet, model);
        comparePieces(of + "thinned: ", cabinet, model);
    }

    private static void comparePieces(String of, MarkCabinet cabinet, Model model) {
        CHECK.due(of + "pieces", model.pieces(0), cabinet.pieces(0));
        CHECK.due(of + "holes", model.pieces(1), cabinet.pieces(1));
    }

    private static void comparePoints(String of, MarkCabinet cabinet, Model model) {
        CHECK.due(of + "count(3)", model.count(3), cabinet.count(3));
        int print = model.print(Draw.WHOLE);
        CHECK.due(of + "print", print, cabinet.print(Draw.WHOLE));
        for (int what = -1; what <= 3 * model.point(print, -1); what++) {
            CHECK.due(of + "point " + what, model.point(print, what), cabinet.point(print, what));
        }
    }
}
