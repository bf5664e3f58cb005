/** Makes grids and prints out of pictures: a text a row, '#' for DARK. */
final class Draw {
    static final int WHOLE = 0x00FF;

    private Draw() {
    }

    /** Feeds all 16 rows; those that the picture does not have are without DARK cells. */
    static void onto(MarkCabinet cabinet, String... picture) {
        for (int y = 0; y < 16; y++) {
            cabinet.feed(y, y < picture.length ? bits(picture[y]) : 0);
        }
    }

    /** All 16 rows alike. */
    static void rows(MarkCabinet cabinet, int bits) {
        for (int y = 0; y < 16; y++) {
            cabinet.feed(y, bits);
        }
    }

    /** Feeds all 16 rows with these cells alone, each as {column, row}. */
    static void cells(MarkCabinet cabinet, int[]... places) {
        int[] rows = new int[16];
        for (int[] place : places) {
            rows[place[1]] |= 0x8000 >> place[0];
        }
        for (int y = 0; y < 16; y++) {
            cabinet.feed(y, rows[y]);
        }
    }

    /** Prints ISLANDS alone, each as {column, row}; no two of them may be NEIGHBOURS. */
    static int islands(MarkCabinet cabinet, int struck, int[]... places) {
        cells(cabinet, places);
        return cabinet.print(struck);
    }

    /** A print of a grid without DARK cells. */
    static int nothing(MarkCabinet cabinet, int struck) {
        rows(cabinet, 0);
        return cabinet.print(struck);
    }

    /** A cabinet with some prints of one ISLAND each, all of them at (7, 7). */
    static MarkCabinet ofIslands(int prints) {
        MarkCabinet cabinet = new MarkCabinet();
        cells(cabinet, at(7, 7));
        for (int k = 0; k < prints; k++) {
            cabinet.print(WHOLE);
        }
        return cabinet;
    }

    static int[] at(int x, int y) {
        return new int[] {x, y};
    }

    static int bits(String row) {
        int bits = 0;
        for (int x = 0; x < row.length(); x++) {
            if (row.charAt(x) == '#') {
                bits |= 0x8000 >> x;
            }
        }
        return bits;
    }
}
