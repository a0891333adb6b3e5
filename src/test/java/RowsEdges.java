/** ROWS: the first sentences of part 1 of the Terms, and promises 2 to 5. */
final class RowsEdges {
    /** Nobody owes anything for ever: by fits() a row tells whether its ITEMS are 0. */
    private static final String ZERO = "v0;p0,0;p0,0;";
    /** The same for ITEMS that are 9. */
    private static final String NINE = "v0;p0,0;p0,0;o0,1,9;";

    private final Sentences s;

    private RowsEdges(Sentences s) {
        this.s = s;
    }

    static void run(Sentences s) {
        RowsEdges edges = new RowsEdges(s);
        s.section("Terms 1");
        edges.missing();
        edges.lanes();
        edges.items();
        edges.row();
        edges.set();
        edges.copy();
        edges.drop();
    }

    private void missing() {
        s.says("ROWS 0 .. 7 are missing (at first),");
        Told x = s.fresh();
        x.each("drop # = NULL", 0, 1, 2, 3, 4, 5, 6, 7).each("drop # = BAD", -1, 8).due("count 0 = 0");
        x.each("row # 0 1 = 1", 0, 1, 2, 3, 4, 5, 6, 7).each("row # 0 1 = BAD", -1, 8).due("count 0 = 8");
    }

    private void lanes() {
        s.says("or have a LANE (0 bytes, 1 shorts, 2 ints)");
        Told x = s.fresh().due("row 0 0 1 = 1", "row 1 1 1 = 1", "row 2 2 1 = 1", "row 3 3 1 = BAD", "row 3 -1 1 = BAD");
        x.due("set 0 0 127 = 127", "set 0 0 128 = -128", "set 0 0 -128 = -128", "set 0 0 -129 = 127");
        x.due("set 1 0 32767 = 32767", "set 1 0 32768 = -32768", "set 1 0 -32768 = -32768", "set 1 0 -32769 = 32767");
        x.due("set 2 0 MAX = MAX", "set 2 0 MIN = MIN");
    }

    private void items() {
        s.says("and 0 to 40 ITEMS, 0 at first.");
        Told x = s.valley(ZERO);
        x.due("row 0 0 0 = 0", "set 0 0 0 = PLACE", "row 0 0 -1 = SIZE");
        for (int lane = 0; lane < 3; lane++) {
            x.due("row 1 " + lane + " 40 = 40", "row 1 " + lane + " 41 = BAD", "set 1 39 0 = 0", "set 1 40 0 = PLACE");
            x.each("fits 0 1 1 # 12 0 = 62", 0, 12, 24, 28);
        }
    }

    private void row() {
        s.section("Promise 2");
        s.says("A ROW of a LANE with n ITEMS, in place of what is there: n.");
        Told x = s.valley(NINE).due("row 3 1 2 = 2", "set 3 1 9 = 9", "fits 0 1 3 1 1 0 = 62");
        x.due("set 3 0 9 = 9", "row 3 0 2 = 2", "count 0 = 1", "fits 0 1 3 1 1 0 = 0", "fits 0 1 3 0 1 0 = 0", "set 3 1 300 = 44");
        x.due("row 3 2 40 = 40", "set 3 39 300 = 300", "row 3 2 1 = 1", "set 3 1 0 = PLACE", "row 3 2 0 = 0");
        x.due("set 3 0 0 = PLACE", "drop 3 = 0");
        s.says("BAD: ROW, LANE, n above 40;");
        x = s.fresh();
        x.each("row # 0 1 = BAD", Told.MIN, -1, 8, Told.MAX).each("row # 0 1 = 1", 0, 7);
        x.each("row 0 # 1 = BAD", Told.MIN, -1, 3, Told.MAX).each("row 0 # 1 = 1", 0, 1, 2);
        x.each("row 0 0 # = BAD", 41, Told.MAX).due("row 0 0 40 = 40", "count 0 = 2");
        x.due("row 0 0 41 = BAD", "set 0 39 1 = 1", "drop 0 = 40");
        s.says("SIZE.");
        x.each("row 0 0 # = SIZE", -1, -41, Told.MIN).due("count 0 = 1", "row 0 0 0 = 0", "count 0 = 2");
        x.due("row 0 2 5 = 5", "row 0 1 -1 = SIZE", "set 0 4 70000 = 70000", "drop 0 = 5");
    }

    private void set() {
        s.section("Promise 3");
        s.says("ITEM i becomes v, its lowest bits, as many as the LANE has (read with their sign): what it is then.");
        Told x = s.valley(NINE).after("row 0 0 3", "row 1 1 3", "row 2 2 3");
        x.due("set 0 1 255 = -1", "set 0 1 256 = 0", "set 0 1 511 = -1", "set 0 1 MIN = 0", "set 0 1 MAX = -1");
        x.due("set 1 1 65535 = -1", "set 1 1 65536 = 0", "set 1 1 98304 = -32768", "set 1 1 MIN = 0", "set 1 1 MAX = -1");
        x.due("set 2 1 65536 = 65536", "set 2 1 -1 = -1", "set 2 1 MIN = MIN", "set 2 1 MAX = MAX");
        // What it has become is 9, and its neighbours are not.
        x.due("set 0 1 265 = 9", "set 1 1 65545 = 9", "set 2 1 9 = 9");
        for (int row = 0; row < 3; row++) {
            x.due("fits 0 1 " + row + " 0 1 0 = 0", "fits 0 1 " + row + " 1 1 0 = 62", "fits 0 1 " + row + " 2 1 0 = 0");
        }
        s.says("BAD: ROW;");
        x.each("set # 1 5 = BAD", Told.MIN, -1, 8, Told.MAX).due("fits 0 1 0 1 1 0 = 62", "fits 0 1 2 1 1 0 = 62");
        s.says("NULL;");
        x.each("set # 0 5 = NULL", 3, 4, 5, 6, 7).due("set 3 -1 5 = NULL", "set 3 40 5 = NULL", "count 0 = 3");
        s.says("PLACE.");
        x.each("set 0 # 5 = PLACE", Told.MIN, -1, 3, 39, 40, Told.MAX).due("set 0 0 5 = 5", "set 0 2 5 = 5");
        x.due("row 4 2 0 = 0", "set 4 0 5 = PLACE", "row 5 2 40 = 40", "set 5 39 5 = 5", "set 5 40 5 = PLACE");
    }

    private void copy() {
        s.section("Promise 4");
        s.says("n ITEMS of a from i on come to b from j on, as they were ahead: n.");
        Told x = s.valley(NINE).after("row 0 1 5", "row 1 1 5", "set 0 0 9", "set 0 4 9");
        x.due("copy 0 0 1 1 1 = 1", "fits 0 1 1 0 1 0 = 0", "fits 0 1 1 1 1 0 = 62", "fits 0 1 1 2 1 0 = 0");
        x.due("fits 0 1 0 0 1 0 = 62", "copy 0 0 1 0 5 = 5", "fits 0 1 1 0 1 0 = 62", "fits 0 1 1 1 1 0 = 0");
        x.due("fits 0 1 1 4 1 0 = 62", "copy 0 4 1 2 1 = 1", "fits 0 1 1 2 1 0 = 62");
        // Within one ROW, to a place behind and to one ahead.
        x.due("row 2 0 5 = 5", "set 2 0 9 = 9", "copy 2 0 2 1 4 = 4", "fits 0 1 2 0 2 0 = 62");
        x.each("fits 0 1 2 # 1 0 = 0", 2, 3, 4);
        x.due("row 2 0 5 = 5", "set 2 4 9 = 9", "copy 2 1 2 0 4 = 4", "fits 0 1 2 3 2 0 = 62");
        x.each("fits 0 1 2 # 1 0 = 0", 0, 1, 2).due("copy 2 0 2 0 5 = 5", "fits 0 1 2 3 2 0 = 62", "fits 0 1 2 2 1 0 = 0");
        // None, also from one end to another, and also of ROWS that have none.
        x.due("copy 0 5 1 5 0 = 0", "copy 0 0 1 0 0 = 0", "fits 0 1 1 0 1 0 = 62", "row 3 1 0 = 0", "copy 3 0 3 0 0 = 0");
        x.due("copy 3 0 0 5 0 = 0", "row 4 2 40 = 40", "row 5 2 40 = 40", "set 4 39 9 = 9", "copy 4 0 5 0 40 = 40",
            "fits 0 1 5 39 1 0 = 62", "fits 0 1 5 38 1 0 = 0");
        s.says("BAD: ROWS;");
        x = s.fresh().after("row 0 0 2");
        x.each("copy # 0 0 0 1 = BAD", Told.MIN, -1, 8, Told.MAX).each("copy 0 0 # 0 1 = BAD", Told.MIN, -1, 8, Told.MAX);
        x.due("copy 7 0 8 0 1 = BAD", "copy -1 9 7 9 9 = BAD");
        s.says("NULL;");
        x.due("copy 7 0 0 0 1 = NULL", "copy 0 0 7 0 1 = NULL", "copy 7 0 7 0 0 = NULL", "copy 7 -1 0 -1 -1 = NULL");
        x.due("row 1 1 2 = 2", "drop 1 = 2", "copy 0 0 1 0 1 = NULL", "copy 1 0 0 0 1 = NULL");
        s.says("STORE;");
        x.due("row 1 1 2 = 2", "row 2 2 2 = 2", "copy 0 0 1 0 1 = STORE", "copy 1 0 0 0 1 = STORE");
        x.due("copy 1 0 2 0 1 = STORE", "copy 0 0 2 0 0 = STORE", "copy 0 -1 1 9 9 = STORE", "copy 2 0 2 0 1 = 1");
        s.says("PLACE (i, j, n below 0, or beyond an end).");
        x = s.fresh().after("row 0 1 5", "row 1 1 3", "row 2 1 0");
        x.each("copy 0 # 1 0 0 = PLACE", Told.MIN, -1, 6, Told.MAX).due("copy 0 5 1 0 0 = 0");
        x.each("copy 0 0 1 # 0 = PLACE", Told.MIN, -1, 4, Told.MAX).due("copy 0 0 1 3 0 = 0");
        x.each("copy 0 0 1 0 # = PLACE", Told.MIN, -1, 4, 5, Told.MAX).due("copy 0 0 1 0 3 = 3");
        x.each("copy 1 0 0 0 # = PLACE", Told.MIN, -1, 4, 5, Told.MAX).due("copy 1 0 0 0 3 = 3");
        x.due("copy 0 2 1 0 3 = 3", "copy 0 3 1 0 3 = PLACE", "copy 0 0 1 1 2 = 2", "copy 0 0 1 1 3 = PLACE");
        x.due("copy 1 1 0 3 2 = 2", "copy 1 2 0 3 2 = PLACE", "copy 1 1 0 4 2 = PLACE", "copy 2 0 0 0 1 = PLACE");
        x.due("copy 0 1 1 0 MAX = PLACE", "copy 0 MAX 1 0 1 = PLACE", "copy 0 0 1 MAX 1 = PLACE",
            "copy 0 MAX 1 MAX MAX = PLACE", "copy 0 MIN 1 0 MAX = PLACE", "copy 0 -1 1 0 1 = PLACE", "copy 0 0 1 -1 1 = PLACE");
    }

    private void drop() {
        s.section("Promise 5");
        s.says("A ROW is missing from now on: how many ITEMS it had.");
        Told x = s.fresh().due("row 0 0 0 = 0", "row 7 2 40 = 40", "count 0 = 2", "drop 7 = 40", "count 0 = 1");
        x.due("set 7 0 1 = NULL", "copy 7 0 7 0 0 = NULL", "drop 0 = 0", "count 0 = 0", "row 7 0 1 = 1", "drop 7 = 1");
        s.says("BAD;");
        x.each("drop # = BAD", Told.MIN, -1, 8, Told.MAX);
        s.says("NULL.");
        x.each("drop # = NULL", 0, 1, 2, 3, 4, 5, 6, 7).due("row 2 0 3 = 3", "drop 2 = 3", "drop 2 = NULL");
    }
}
