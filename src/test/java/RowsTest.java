/** Promises 1 to 5, and 34: ROWS and their FINDINGS. */
public final class RowsTest {
    private static final int NULL = -1000011, PLACE = -1000012, SIZE = -1000014, STORE = -1000015;
    private static final Due DUE = new Due("RowsTest");

    public static void main(String[] args) {
        promise1();
        promise2();
        promise3();
        promise4();
        promise4Overlap();
        promise5();
        promise34();
        DUE.end();
    }

    /** A VALLEY in which bell 0 owes bell 1 nine QUARTERS for ever, by which the items of a ROW can be read. */
    private static BellDebts reader() {
        return Due.valley("v0;p0,0;p0,0;o0,1,9;");
    }

    private static void item(BellDebts x, int row, int i, boolean nine) {
        DUE.is("item " + i + " of row " + row + " is 9", nine ? 62 : 0, x.fits(0, 1, row, i, 1, 0));
    }

    private static void promise1() {
        BellDebts x = new BellDebts();
        for (int what = 0; what < 8; what++) {
            DUE.is("new: count(" + what + ")", 0, x.count(what));
        }
        DUE.is("new: status()", 0, x.status());
        DUE.is("new: fault()", 0, x.fault());
        DUE.is("new: trace(0)", BellDebts.NONE, x.trace(0));
        DUE.is("new: days(1)", BellDebts.STATE, x.days(1));
        DUE.is("new: bell(0, 0)", BellDebts.BAD, x.bell(0, 0));
        DUE.is("new: drop(7)", NULL, x.drop(7));
    }

    private static void promise2() {
        BellDebts x = reader();
        DUE.is("row(0, 0, 0)", 0, x.row(0, 0, 0));
        DUE.is("row(7, 2, 40)", 40, x.row(7, 2, 40));
        DUE.is("row(3, 1, 5)", 5, x.row(3, 1, 5));
        DUE.is("count(0)", 3, x.count(0));
        int[][] bad = {{-1, 0, 1}, {8, 0, 1}, {0, -1, 1}, {0, 3, 1}, {0, 0, 41}, {8, 0, -1}, {0, 3, -1},
            {Integer.MIN_VALUE, 0, 0}, {0, Integer.MAX_VALUE, 0}, {0, 0, Integer.MAX_VALUE}};
        for (int[] b : bad) {
            DUE.is("row(" + b[0] + ", " + b[1] + ", " + b[2] + ")", BellDebts.BAD, x.row(b[0], b[1], b[2]));
        }
        DUE.is("row(3, 1, -1)", SIZE, x.row(3, 1, -1));
        DUE.is("row(3, 1, MIN)", SIZE, x.row(3, 1, Integer.MIN_VALUE));
        DUE.is("the row stays", 9, x.set(3, 4, 9));
        item(x, 3, 4, true);
        DUE.is("row(3, 0, 5) anew", 5, x.row(3, 0, 5));
        item(x, 3, 4, false);
        x.set(3, 0, 9);
        item(x, 3, 0, true);
        x.row(3, 0, 5);
        item(x, 3, 0, false);
        DUE.is("its lane is another", -56, x.set(3, 4, 200));
        DUE.is("count(0) anew", 3, x.count(0));
    }

    private static void promise3() {
        BellDebts x = new BellDebts();
        for (int lane = 0; lane < 3; lane++) {
            x.row(lane, lane, 3);
        }
        int[] given = {0, 1, 127, 128, 200, 255, 256, -129, 32767, 32768, 70000, -32769, Integer.MAX_VALUE, Integer.MIN_VALUE};
        for (int v : given) {
            DUE.is("byte " + v, (byte) v, x.set(0, 0, v));
            DUE.is("short " + v, (short) v, x.set(1, 1, v));
            DUE.is("int " + v, v, x.set(2, 2, v));
        }
        DUE.is("set(2, 3, 0)", PLACE, x.set(2, 3, 0));
        DUE.is("set(2, -1, 0)", PLACE, x.set(2, -1, 0));
        DUE.is("set(2, MAX, 0)", PLACE, x.set(2, Integer.MAX_VALUE, 0));
        DUE.is("set(2, MIN, 0)", PLACE, x.set(2, Integer.MIN_VALUE, 0));
        DUE.is("set(3, -1, 0)", NULL, x.set(3, -1, 0));
        DUE.is("set(8, 0, 0)", BellDebts.BAD, x.set(8, 0, 0));
        DUE.is("set(-1, 0, 0)", BellDebts.BAD, x.set(-1, 0, 0));
        x.row(4, 0, 0);
        DUE.is("set(4, 0, 0) of no items", PLACE, x.set(4, 0, 0));
    }

    private static void promise4() {
        BellDebts x = reader();
        x.row(0, 1, 6);
        x.row(1, 1, 4);
        x.row(2, 2, 4);
        x.set(0, 2, 9);
        DUE.is("copy(0, 2, 1, 0, 2)", 2, x.copy(0, 2, 1, 0, 2));
        item(x, 1, 0, true);
        item(x, 1, 1, false);
        item(x, 0, 2, true);
        DUE.is("copy(8, 0, 1, 0, 1)", BellDebts.BAD, x.copy(8, 0, 1, 0, 1));
        DUE.is("copy(0, 0, -1, 0, 1)", BellDebts.BAD, x.copy(0, 0, -1, 0, 1));
        DUE.is("copy(3, 0, 8, 0, 1): BAD ahead of NULL", BellDebts.BAD, x.copy(3, 0, 8, 0, 1));
        DUE.is("copy(3, -1, 2, 0, 1): NULL ahead of PLACE", NULL, x.copy(3, -1, 2, 0, 1));
        DUE.is("copy(0, 0, 3, 0, 1)", NULL, x.copy(0, 0, 3, 0, 1));
        DUE.is("copy(0, -1, 2, 0, 1): STORE ahead of PLACE", STORE, x.copy(0, -1, 2, 0, 1));
        DUE.is("copy(0, 0, 2, 0, 0): STORE for none, too", STORE, x.copy(0, 0, 2, 0, 0));
        int[][] places = {{-1, 0, 1}, {0, -1, 1}, {0, 0, -1}, {5, 0, 2}, {0, 3, 2}, {0, 0, 5}, {7, 0, 0}, {0, 5, 0},
            {Integer.MAX_VALUE, 0, 1}, {1, 1, Integer.MAX_VALUE}, {0, Integer.MAX_VALUE, 1}, {Integer.MIN_VALUE, 0, 1}};
        for (int[] p : places) {
            String call = "copy(0, " + p[0] + ", 1, " + p[1] + ", " + p[2] + ")";
            DUE.is(call, PLACE, x.copy(0, p[0], 1, p[1], p[2]));
        }
        item(x, 1, 0, true);
        DUE.is("copy(0, 6, 1, 4, 0)", 0, x.copy(0, 6, 1, 4, 0));
        DUE.is("copy(0, 2, 1, 0, 4)", 4, x.copy(0, 2, 1, 0, 4));
    }

    private static void promise4Overlap() {
        BellDebts x = reader();
        x.row(0, 2, 5);
        x.set(0, 0, 9);
        DUE.is("copy(0, 0, 0, 1, 4)", 4, x.copy(0, 0, 0, 1, 4));
        item(x, 0, 0, true);
        item(x, 0, 1, true);
        item(x, 0, 2, false);
        x.row(0, 2, 5);
        x.set(0, 4, 9);
        DUE.is("copy(0, 1, 0, 0, 4)", 4, x.copy(0, 1, 0, 0, 4));
        item(x, 0, 2, false);
        item(x, 0, 3, true);
        item(x, 0, 4, true);
    }

    private static void promise5() {
        BellDebts x = new BellDebts();
        x.row(6, 0, 17);
        DUE.is("drop(6)", 17, x.drop(6));
        DUE.is("count(0)", 0, x.count(0));
        DUE.is("drop(6) again", NULL, x.drop(6));
        DUE.is("set(6, 0, 1)", NULL, x.set(6, 0, 1));
        DUE.is("drop(8)", BellDebts.BAD, x.drop(8));
        DUE.is("drop(-1)", BellDebts.BAD, x.drop(-1));
        x.row(6, 0, 0);
        DUE.is("drop(6) of no items", 0, x.drop(6));
    }

    private static void promise34() {
        BellDebts x = Due.valley("v0;p0,0;c0,0;");
        x.row(0, 0, -1);
        DUE.is("SIZE", 4, x.status());
        x.row(0, 3, -1);
        DUE.is("BAD tells nothing", 4, x.status());
        x.row(0, 0, 2);
        DUE.is("none", 0, x.status());
        x.set(0, 2, 0);
        DUE.is("PLACE", 2, x.status());
        x.feed(0);
        x.ask(0, 0);
        x.days(1);
        x.days(0);
        x.bell(0, 0);
        DUE.is("other calls tell nothing", 2, x.status());
        x.set(0, 1, 0);
        DUE.is("none of set()", 0, x.status());
        x.drop(1);
        DUE.is("NULL", 1, x.status());
        x.copy(0, 0, 0, 1, 1);
        DUE.is("none of copy()", 0, x.status());
        x.as(0, 4);
        DUE.is("KIND", 3, x.status());
        x.as(2, 0);
        DUE.is("BAD of as()", 3, x.status());
        x.as(0, 1);
        DUE.is("none of as()", 0, x.status());
        x.row(1, 1, 2);
        x.copy(0, 0, 1, 0, 1);
        DUE.is("STORE", 5, x.status());
        x.fits(0, 1, 0, 0, 13, 0);
        DUE.is("BAD of fits()", 5, x.status());
        x.fits(0, 1, 0, 0, 1, 0);
        DUE.is("none of fits()", 0, x.status());
        x.fits(0, 1, 0, 2, 1, 0);
        DUE.is("PLACE of fits()", 2, x.status());
        x.drop(0);
        DUE.is("none of drop()", 0, x.status());
        x.fits(0, 1, 0, 0, 1, 0);
        DUE.is("NULL of fits()", 1, x.status());
    }
}
