/** Promises 9 to 16: DAYS, strokes lent by hand, debts that are paid, forgiven, ropes mended, what is undone. */
public final class ActsTest {
    private static final int BAD = BellDebts.BAD, STATE = BellDebts.STATE, FULL = BellDebts.FULL;
    private static final Due DUE = new Due("ActsTest");

    public static void main(String[] args) {
        promise9();
        promise9Ring();
        promise9Frost();
        promise9PayingBack();
        promise9Full();
        promise10();
        promise11();
        promise12();
        promise13();
        promise14();
        promise14EachAct();
        promise15();
        promise16();
        DUE.end();
    }

    private static void promise9() {
        BellDebts x = new BellDebts();
        DUE.is("STATE ahead of BAD", STATE, x.days(0));
        x = Due.valley("v0;p0,2;p5,1;");
        DUE.is("days(0)", BAD, x.days(0));
        DUE.is("days(25)", BAD, x.days(25));
        DUE.is("days(-1)", BAD, x.days(-1));
        DUE.is("lent by a parish", 10, x.days(1));
        DUE.is("owes(0, 1)", 10, x.owes(0, 1));
        DUE.is("nobody silent", 0, x.count(5));
        DUE.is("DAY", 1, x.count(2));
        DUE.is("two days more", 30, x.days(2));
        DUE.is("acts", 3, x.count(6));
        DUE.is("24 days", 270, x.days(24));
        DUE.is("lent by a deaf one", 0, Due.valley("v0;p0,2;d5,1;").days(1));
        DUE.is("lent by a field's", 12, Due.valley("v0;p0,2;f5,1;").days(1));
        DUE.is("a field's has none", 0, Due.valley("v0;p0,2;f1,1;").days(3));
        DUE.is("two fields", 20, Due.valley("v0;p0,3;f1,0;f5,0;").days(1));
        for (String none : new String[] {"c", "w"}) {
            x = Due.valley("v0;p0,2;" + none + "5,1;");
            DUE.is("lent by " + none, 0, x.days(1));
            DUE.is("silent by " + none, 2, x.bell(0, 2));
        }
        x = Due.valley("v0;p0,2;d1,0;c0,0;");
        x.days(3);
        DUE.is("lacked still", 3, x.bell(0, 2));
        x = Due.valley("v0;c0,2;w0,3;d9,0;");
        x.days(1);
        DUE.is("a cathedral's, one for weddings borrow", 0, x.count(5));
    }

    private static void promise9Ring() {
        BellDebts x = Due.valley("v0;p2,0;p0,3;p1,0;p9,0;");
        DUE.is("from the next number on", 15, x.days(1));
        DUE.is("by 2", 5, x.owes(1, 2));
        DUE.is("by 3", 10, x.owes(1, 3));
        DUE.is("by 0", 0, x.owes(1, 0));
        x = Due.valley("v0;p2,0;p1,0;p0,3;");
        x.days(1);
        DUE.is("behind the last one 0", 10, x.owes(2, 0));
        DUE.is("then 1", 5, x.owes(2, 1));
        x = Due.valley("v0;p0,2;p0,2;p3,0;");
        x.days(1);
        DUE.is("the least number first", 10, x.owes(0, 2));
        DUE.is("what is left", 5, x.owes(1, 2));
        DUE.is("silent for the rest", 1, x.bell(1, 2));
        DUE.is("not silent", 0, x.bell(0, 2));
        x = Due.valley("v0;p0,1;c9,0;p9,0;f9,0;");
        x.days(1);
        DUE.is("behind a cathedral's the next", 5, x.owes(0, 2));
    }

    private static void promise9Frost() {
        BellDebts x = Due.valley("v5;p3,3;c0,0;");
        int[] silent = {1, 1, 2, 2, 3, 3};
        for (int d = 0; d < silent.length; d++) {
            x.days(1);
            DUE.is("frost on DAY " + d, silent[d], x.bell(0, 2));
            DUE.is("no less than none on DAY " + d, 0, x.bell(1, 2));
        }
        x = Due.valley("v0;w1,1;c0,0;");
        int[] weddings = {0, 1, 1, 2, 2};
        for (int d = 0; d < weddings.length; d++) {
            x.days(1);
            DUE.is("weddings on DAY " + d, weddings[d], x.bell(0, 2));
        }
        x = Due.valley("v8;p0,1;p1,0;");
        DUE.is("three days without", 15, x.days(3));
        DUE.is("frost takes what would be lent", 15, x.days(1));
        DUE.is("and the fifth day", 20, x.days(1));
    }

    private static void promise9PayingBack() {
        BellDebts x = Due.valley("v0;p4,0;p0,0;p0,0;o0,2,6;o0,1,9;");
        DUE.is("by numbers", 2, x.days(1));
        DUE.is("to 1", 0, x.owes(0, 1));
        DUE.is("to 2", 2, x.owes(0, 2));
        x = Due.valley("v0;p0,2;p3,0;o1,0,9;");
        x.days(1);
        DUE.is("first taken from what the other owes", 1, x.owes(0, 1));
        DUE.is("that is nothing then", 0, x.owes(1, 0));
        x = Due.valley("v0;p0,2;p3,0;o1,0,15;");
        x.days(1);
        DUE.is("paid by what is left", 1, x.owes(1, 0));
        x = Due.valley("v0;p0,2;p2,0;o1,0,15;");
        x.days(1);
        DUE.is("nothing is left", 5, x.owes(1, 0));
        x = Due.valley("v0;c3,0;w2,1;p0,0;o0,2,20;o1,2,20;");
        x.days(1);
        DUE.is("a cathedral's pays", 8, x.owes(0, 2));
        DUE.is("one for weddings pays", 16, x.owes(1, 2));
        x = Due.valley("v0;p2,0;p0,0;p0,0;o0,1,1;o0,2,7;");
        x.days(1);
        DUE.is("a stroke for the last one, too", 0, x.owes(0, 1));
        DUE.is("and one for the next", 3, x.owes(0, 2));
        x = Due.valley("v0;p0,1;p1,0;p2,0;o2,0,4;o0,1,3;");
        x.days(1);
        DUE.is("lent by 1", 8, x.owes(0, 1));
        DUE.is("paid by 2", 0, x.owes(2, 0));
    }

    private static void promise9Full() {
        BellDebts x = Due.valley("v0;w0,9;c0,0;");
        for (int k = 0; k < 41; k++) {
            x.days(24);
        }
        DUE.is("DAY 984", 984, x.count(2));
        DUE.is("beyond DAY 999", FULL, x.days(16));
        DUE.is("BAD ahead of FULL", BAD, x.days(25));
        DUE.is("nothing has changed", 984, x.count(2));
        DUE.is("as far as DAY 999", 0, x.days(15));
        DUE.is("DAY 999", 999, x.count(2));
        DUE.is("one more", FULL, x.days(1));
        DUE.is("silent", 9490, x.bell(0, 2));
        DUE.is("foretold past 999", 9994, x.later(0, 53, 0));
        DUE.is("9999 at most", 9999, x.later(0, 54, 0));
        DUE.is("9999 at most, much later", 9999, x.later(0, 60, 0));
        DUE.is("acts are kept", 24, x.count(6));
        DUE.is("undone", 23, x.undo());
        DUE.is("a day again", 0, x.days(1));
    }

    private static void promise10() {
        BellDebts x = Due.valley("v0;p0,0;d0,0;f0,0;c0,0;w0,0;");
        int[] prices = {10, 0, 12, 8, 8};
        for (int other = 1; other < 5; other++) {
            DUE.is("lend(0, " + other + ", 2)", prices[other], x.lend(0, other, 2));
        }
        DUE.is("lend(1, 0, 2)", 10, x.lend(1, 0, 2));
        DUE.is("all", 38, x.count(4));
        DUE.is("acts, also by a deaf one", 5, x.count(6));
        DUE.is("nobody silent, no day", 0, x.count(5) + x.count(2));
        DUE.is("lend(2, 0, 1): first from what the other owes", 0, x.lend(2, 0, 1));
        DUE.is("owes(0, 2)", 7, x.owes(0, 2));
        DUE.is("lend(2, 0, 9)", 38, x.lend(2, 0, 9));
        DUE.is("owes(0, 2) then", 0, x.owes(0, 2));
        DUE.is("lend(2, 0, 1) more", 43, x.lend(2, 0, 1));
        int[][] bad = {{0, 0, 1}, {5, 0, 1}, {0, 5, 1}, {-1, 0, 1}, {0, -1, 1}, {0, 1, 0}, {0, 1, 10}, {0, 1, -5}};
        for (int[] b : bad) {
            DUE.is("lend(" + b[0] + ", " + b[1] + ", " + b[2] + ")", BAD, x.lend(b[0], b[1], b[2]));
        }
        DUE.is("BAD is no act", 8, x.count(6));
        DUE.is("no valley", BAD, new BellDebts().lend(0, 1, 1));
    }

    private static void promise11() {
        BellDebts x = Due.valley("v0;p0,0;p0,0;o0,1,50;");
        DUE.is("pay(0, 1, 1)", 49, x.pay(0, 1, 1));
        DUE.is("pay(0, 1, 40)", 9, x.pay(0, 1, 40));
        int[][] bad = {{0, 1, 0}, {0, 1, 1000}, {0, 1, -1}, {0, 0, 1}, {2, 1, 1}, {0, 2, 1}, {-1, 1, 1}, {1, 0, 0}};
        for (int[] b : bad) {
            DUE.is("pay(" + b[0] + ", " + b[1] + ", " + b[2] + ")", BAD, x.pay(b[0], b[1], b[2]));
        }
        DUE.is("pay(1, 0, 1) owes nothing", STATE, x.pay(1, 0, 1));
        DUE.is("pay(0, 1, 999)", 0, x.pay(0, 1, 999));
        DUE.is("nothing the other way", 0, x.owes(1, 0));
        DUE.is("pay(0, 1, 1) behind", STATE, x.pay(0, 1, 1));
        DUE.is("acts", 3, x.count(6));
        DUE.is("no valley", BAD, new BellDebts().pay(0, 1, 1));
    }

    private static void promise12() {
        BellDebts x = Due.valley("v0;p0,0;p0,0;p0,0;o0,1,50;o0,2,7;");
        DUE.is("forgive(1, 0)", STATE, x.forgive(1, 0));
        DUE.is("forgive(0, 1)", 50, x.forgive(0, 1));
        DUE.is("owes(0, 1)", 0, x.owes(0, 1));
        DUE.is("owes(0, 2)", 7, x.owes(0, 2));
        DUE.is("forgive(0, 1) again", STATE, x.forgive(0, 1));
        DUE.is("forgive(0, 0)", BAD, x.forgive(0, 0));
        DUE.is("forgive(0, 3)", BAD, x.forgive(0, 3));
        DUE.is("forgive(-1, 0)", BAD, x.forgive(-1, 0));
        DUE.is("acts", 1, x.count(6));
        DUE.is("no valley", BAD, new BellDebts().forgive(0, 1));
    }

    private static void promise13() {
        BellDebts x = Due.valley("v0;p4,0;p0,0;");
        DUE.is("mend(0, 99)", 4, x.mend(0, 99));
        DUE.is("mend(0, 99) again", 99, x.mend(0, 99));
        DUE.is("mend(0, 0)", 99, x.mend(0, 0));
        DUE.is("HAS", 0, x.bell(0, 0));
        DUE.is("acts", 3, x.count(6));
        DUE.is("mend(0, 100)", BAD, x.mend(0, 100));
        DUE.is("mend(0, -1)", BAD, x.mend(0, -1));
        DUE.is("mend(2, 1)", BAD, x.mend(2, 1));
        DUE.is("mend(-1, 1)", BAD, x.mend(-1, 1));
        DUE.is("no valley", BAD, new BellDebts().mend(0, 1));
    }

    private static void promise14() {
        BellDebts x = new BellDebts();
        DUE.is("no valley", STATE, x.undo());
        x = Due.valley("v0;p0,0;p0,0;");
        DUE.is("no act", STATE, x.undo());
        for (int v = 1; v <= 30; v++) {
            x.mend(0, v);
        }
        DUE.is("24 are kept", 24, x.count(6));
        for (int left = 23; left >= 0; left--) {
            DUE.is("undo() to " + left, left, x.undo());
            DUE.is("HAS then", left + 6, x.bell(0, 0));
        }
        DUE.is("the oldest are forgotten", STATE, x.undo());
        DUE.is("HAS at last", 6, x.bell(0, 0));
        x.mend(1, 7);
        DUE.is("undo() of a new one", 0, x.undo());
        x.days(20);
        x.days(20);
        DUE.is("days are acts each", 24, x.count(6));
        x.undo();
        DUE.is("DAY", 39, x.count(2));
    }

    private static void promise14EachAct() {
        BellDebts x = Due.valley("v0;p0,3;p2,0;p0,0;o2,0,30;");
        x.days(1);
        x.lend(0, 2, 1);
        x.lend(0, 2, 6);
        x.pay(0, 1, 3);
        x.forgive(0, 1);
        x.mend(1, 50);
        DUE.is("undo the rope", 5, x.undo());
        DUE.is("HAS", 2, x.bell(1, 0));
        DUE.is("undo what was forgiven", 4, x.undo());
        DUE.is("owes(0, 1) forgiven", 7, x.owes(0, 1));
        DUE.is("undo what was paid", 3, x.undo());
        DUE.is("owes(0, 1) paid", 10, x.owes(0, 1));
        DUE.is("owes(0, 2) lent", 5, x.owes(0, 2));
        DUE.is("undo what was lent", 2, x.undo());
        DUE.is("owes(0, 2)", 0, x.owes(0, 2));
        DUE.is("owes(2, 0)", 25, x.owes(2, 0));
        DUE.is("undo what was lent first", 1, x.undo());
        DUE.is("owes(2, 0) at first", 30, x.owes(2, 0));
        DUE.is("silent", 1, x.bell(0, 2));
        DUE.is("undo the day", 0, x.undo());
        DUE.is("DAY", 0, x.count(2));
        DUE.is("silent no more", 0, x.bell(0, 2));
        DUE.is("owes(0, 1)", 0, x.owes(0, 1));
        x.lend(0, 1, 1);
        x.pay(1, 0, 1);
        x.forgive(1, 0);
        x.days(0);
        x.mend(9, 9);
        x.lend(0, 0, 1);
        DUE.is("what is refused is no act", 1, x.count(6));
    }

    private static void promise15() {
        BellDebts x = Due.valley("v1;p3,3;w2,1;f9,4;o0,1,9;o2,0,5;");
        // On DAY 0 bell 0 lacks 1: the field's lends it for 8, of which 5 are taken from what it owes itself.
        int[][][] days = {
            {{3, 3, 0, -4, 0, 1}, {2, 1, 0, 9, 0, 0}, {9, 4, 0, -5, 4, 0}},
            {{3, 3, 0, -12, 0, 0}, {2, 1, 0, 9, 0, 0}, {9, 4, 0, 3, 5, 0}}};
        for (int d = 0; d < 2; d++) {
            for (int b = 0; b < 3; b++) {
                for (int what = 0; what < 6; what++) {
                    DUE.is("bell(" + b + ", " + what + ") on DAY " + d, days[d][b][what], x.bell(b, what));
                }
            }
            x.days(1);
        }
        DUE.is("SPARE of one for weddings on DAY 2", 1, x.bell(1, 4));
        x.mend(0, 0);
        x.mend(2, 0);
        DUE.is("LACKS on DAY 2", 3, x.bell(0, 5));
        x.days(3);
        DUE.is("how long it was SILENT", 9, x.bell(0, 2));
        DUE.is("how long all were", 21, x.count(5));
        DUE.is("bell(0, 6)", BAD, x.bell(0, 6));
        DUE.is("bell(0, -1)", BAD, x.bell(0, -1));
        DUE.is("bell(3, 0)", BAD, x.bell(3, 0));
        DUE.is("bell(-1, 0)", BAD, x.bell(-1, 0));
    }

    private static void promise16() {
        BellDebts x = Due.valley("v0;p0,0;p0,0;p0,0;o2,0,5;");
        DUE.is("owes(2, 0)", 5, x.owes(2, 0));
        DUE.is("owes(0, 2)", 0, x.owes(0, 2));
        DUE.is("owes(1, 1)", BAD, x.owes(1, 1));
        DUE.is("owes(3, 0)", BAD, x.owes(3, 0));
        DUE.is("owes(0, 3)", BAD, x.owes(0, 3));
        DUE.is("owes(-1, 0)", BAD, x.owes(-1, 0));
        DUE.is("owes(0, MIN)", BAD, x.owes(0, Integer.MIN_VALUE));
        DUE.is("no valley", BAD, new BellDebts().owes(0, 1));
    }
}
