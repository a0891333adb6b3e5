/** Promises 29 to 33: KINDS, ASKS, THE TRACE, counts. */
public final class AskedTest {
    private static final int BAD = BellDebts.BAD, NONE = BellDebts.NONE;
    private static final Due DUE = new Due("AskedTest");
    private static final String ALL = "v3;p3,1;d4,2;f5,3;c6,4;w7,5;o0,1,9;o4,2,8;";

    public static void main(String[] args) {
        promise29and30();
        promise31and32();
        promise31Refused();
        promise33();
        DUE.end();
    }

    private static void promise29and30() {
        BellDebts x = Due.valley(ALL);
        boolean[][] isOne = {
            {true, true, false, false, false, false},
            {true, true, true, false, false, false},
            {true, true, false, true, false, false},
            {true, false, false, false, true, false},
            {true, false, false, false, true, true}};
        for (int b = 0; b < 5; b++) {
            DUE.is("kind(" + b + ")", b + 1, x.kind(b));
            for (int kind = 0; kind < 6; kind++) {
                DUE.is("as(" + b + ", " + kind + ")", isOne[b][kind] ? b : -1000013, x.as(b, kind));
                DUE.is("status() then", isOne[b][kind] ? 0 : 3, x.status());
            }
        }
        for (int bell : new int[] {5, -1, Integer.MAX_VALUE}) {
            DUE.is("kind(" + bell + ")", BAD, x.kind(bell));
            DUE.is("as(" + bell + ", 0)", BAD, x.as(bell, 0));
        }
        DUE.is("as(0, 6)", BAD, x.as(0, 6));
        DUE.is("as(0, -1)", BAD, x.as(0, -1));
        DUE.is("no valley", BAD, new BellDebts().kind(0));
        DUE.is("no valley to take from", BAD, new BellDebts().as(0, 0));
    }

    private static void ask(BellDebts x, int bell, int what, int answer, int... bodies) {
        String call = "ask(" + bell + ", " + what + ")";
        DUE.is(call, answer, x.ask(bell, what));
        for (int i = 0; i < bodies.length; i++) {
            DUE.is("trace(" + i + ") of " + call, bodies[i], x.trace(i));
        }
        DUE.is("the end of the trace of " + call, NONE, x.trace(bodies.length));
    }

    private static void promise31and32() {
        BellDebts x = Due.valley(ALL);
        DUE.is("trace(0) ahead of an ask", NONE, x.trace(0));
        ask(x, 0, 0, -6, 11, 10, 21, 20);
        ask(x, 1, 0, -24, 12, 11, 10, 24, 21, 20);
        ask(x, 2, 0, -985, 11, 10, 22, 21, 20);
        ask(x, 3, 0, -94, 13, 10);
        ask(x, 4, 0, -186, 14, 13, 10);
        ask(x, 0, 1, -9, 21, 20);
        ask(x, 1, 1, 20, 24, 21, 20);
        ask(x, 2, 1, -990, 22, 21, 20);
        ask(x, 3, 1, 97, 23, 20, 13, 10);
        ask(x, 4, 1, 190, 23, 20, 14, 13, 10);
        x.mend(4, 99);
        ask(x, 4, 1, 6, 23, 20, 14, 13, 10);
        DUE.is("trace(-1)", NONE, x.trace(-1));
        DUE.is("trace(MIN)", NONE, x.trace(Integer.MIN_VALUE));
        DUE.is("trace(16)", NONE, x.trace(16));
        DUE.is("trace(MAX)", NONE, x.trace(Integer.MAX_VALUE));
    }

    private static void promise31Refused() {
        BellDebts x = Due.valley(ALL);
        x.ask(3, 0);
        int[][] bad = {{5, 0}, {-1, 0}, {0, 2}, {0, -1}};
        for (int[] b : bad) {
            DUE.is("ask(" + b[0] + ", " + b[1] + ")", BAD, x.ask(b[0], b[1]));
        }
        DUE.is("the trace stays", 13, x.trace(0));
        DUE.is("and its second", 10, x.trace(1));
        DUE.is("and its end", NONE, x.trace(2));
        DUE.is("no valley", BAD, new BellDebts().ask(0, 0));
    }

    private static void promise33() {
        BellDebts x = Due.valley(ALL);
        x.row(0, 0, 0);
        x.row(7, 1, 3);
        x.days(2);
        x.mend(3, 0);
        x.mend(4, 0);
        x.days(1);
        Due.feed(x, "v1;p");
        int owed = 0;
        int silent = 0;
        for (int one = 0; one < 5; one++) {
            silent += x.bell(one, 2);
            for (int other = 0; other < 5; other++) {
                owed += one == other ? 0 : x.owes(one, other);
            }
        }
        DUE.is("somebody owes, and is silent", 1, owed > 0 && silent > 0 ? 1 : 0);
        int[] counts = {2, 5, 3, 3, owed, silent, 5, 4};
        for (int what = 0; what < 8; what++) {
            DUE.is("count(" + what + ")", counts[what], x.count(what));
        }
        DUE.is("count(8)", BAD, x.count(8));
        DUE.is("count(-1)", BAD, x.count(-1));
    }
}
