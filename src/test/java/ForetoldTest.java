/** Promises 17 to 28: what is foretold, and IMAGES. */
public final class ForetoldTest {
    private static final int BAD = BellDebts.BAD, STATE = BellDebts.STATE, NONE = BellDebts.NONE;
    private static final Due DUE = new Due("ForetoldTest");

    public static void main(String[] args) {
        promise17and18();
        promise19();
        promise20();
        promise21();
        promise22();
        promise23();
        promise24();
        promise24Refused();
        promise25();
        promise26();
        promise27and28();
        nothingChanges();
        DUE.end();
    }

    private static void promise17and18() {
        String text = "v6;p0,3;f4,1;w3,3;d2,2;o1,0,30;o2,3,11;";
        BellDebts x = Due.valley(text);
        BellDebts y = Due.valley(text);
        for (int d = 0; d <= 60; d++) {
            for (int one = 0; one < 4; one++) {
                for (int other = 0; other < 4; other++) {
                    if (one != other) {
                        DUE.is("ahead(" + one + ", " + other + ", " + d + ")", y.owes(one, other), x.ahead(one, other, d));
                    }
                }
                DUE.is("later(" + one + ", " + d + ", 0)", y.bell(one, 2), x.later(one, d, 0));
                DUE.is("later(" + one + ", " + d + ", 1)", y.bell(one, 3), x.later(one, d, 1));
            }
            y.days(1);
            if (d % 20 == 19) {
                // An object is good for 512 calls.
                x = Due.valley(text);
                y = Due.valley(text);
                for (int k = 0; k <= d; k += 20) {
                    y.days(20);
                }
            }
        }
        int[][] bad = {{0, 0, 1}, {4, 0, 1}, {0, 4, 1}, {-1, 0, 1}, {0, -1, 1}, {0, 1, 61}, {0, 1, -1}};
        for (int[] b : bad) {
            DUE.is("ahead(" + b[0] + ", " + b[1] + ", " + b[2] + ")", BAD, x.ahead(b[0], b[1], b[2]));
        }
        int[][] bad2 = {{4, 0, 0}, {-1, 0, 0}, {0, 61, 0}, {0, -1, 0}, {0, 1, 2}, {0, 1, -1}};
        for (int[] b : bad2) {
            DUE.is("later(" + b[0] + ", " + b[1] + ", " + b[2] + ")", BAD, x.later(b[0], b[1], b[2]));
        }
        x = Due.valley("v0;p3,3;c0,1;");
        DUE.is("later(0, 9, 0)", 0, x.later(0, 9, 0));
        DUE.is("later(1, 9, 0)", 9, x.later(1, 9, 0));
        // By hand: bell 0 borrows 2 each day for 10.
        x = Due.valley("v0;p0,3;p2,0;o1,0,13;");
        DUE.is("ahead(1, 0, 0)", 13, x.ahead(1, 0, 0));
        DUE.is("ahead(1, 0, 1)", 3, x.ahead(1, 0, 1));
        DUE.is("ahead(0, 1, 2)", 7, x.ahead(0, 1, 2));
        DUE.is("ahead(0, 1, 60)", 587, x.ahead(0, 1, 60));
        DUE.is("later(0, 60, 0)", 60, x.later(0, 60, 0));
        x.days(2);
        DUE.is("later(0, 3, 0) counts all", 5, x.later(0, 3, 0));
        DUE.is("later(0, 3, 1)", -37, x.later(0, 3, 1));
    }

    private static void promise19() {
        DUE.is("no valley", STATE, new BellDebts().even());
        DUE.is("even now", 0, Due.valley("v0;p0,0;p0,0;").even());
        BellDebts x = Due.valley("v0;p1,0;p0,0;o0,1,9;");
        DUE.is("three days", 3, x.even());
        x.days(1);
        DUE.is("two days", 2, x.even());
        DUE.is("never", NONE, Due.valley("v0;p0,0;p0,0;o0,1,9;").even());
        x = Due.valley("v0;p1,0;p0,0;");
        for (int k = 0; k < 5; k++) {
            x.lend(0, 1, 9);
        }
        x.lend(0, 1, 3);
        DUE.is("60 days", 60, x.even());
        x.lend(0, 1, 1);
        DUE.is("beyond 60", NONE, x.even());
        // On odd days the debt is back again: the first time counts.
        DUE.is("first", 1, Due.valley("v0;p1,0;w1,1;o0,1,4;").even());
    }

    private static void promise20() {
        DUE.is("no valley, STATE ahead of BAD", STATE, new BellDebts().first(2));
        BellDebts x = Due.valley("v0;p3,3;w1,1;p0,0;");
        DUE.is("first(0)", 1, x.first(0));
        DUE.is("first(1)", 2, x.first(1));
        DUE.is("first(2)", BAD, x.first(2));
        DUE.is("first(-1)", BAD, x.first(-1));
        x.days(2);
        DUE.is("first(0), more than now", 1, x.first(0));
        DUE.is("first(1), more than now", 2, x.first(1));
        x = Due.valley("v8;c0,0;p3,3;p3,3;");
        DUE.is("of several the least", 1, x.first(0));
        DUE.is("behind four days", 4, x.first(1));
        x = Due.valley("v0;p3,3;p1,1;");
        DUE.is("nobody", NONE, x.first(0));
        DUE.is("never", NONE, x.first(1));
        x = Due.valley("v0;c0,1;p0,1;");
        DUE.is("bell 0 is the least", 0, x.first(0));
        x = Due.valley("v0;c0,0;p0,1;");
        DUE.is("the bell of the first day", 1, x.first(0));
        DUE.is("the first day", 1, x.first(1));
    }

    private static void payments(String debts, int how, int quarters) {
        BellDebts x = Due.valley("v0;p0,0;p0,0;p0,0;p0,0;p0,0;p0,0;" + debts);
        DUE.is("payments(0) of " + debts, how, x.payments(0));
        DUE.is("payments(1) of " + debts, quarters, x.payments(1));
    }

    private static void promise21() {
        DUE.is("no valley, STATE ahead of BAD", STATE, new BellDebts().payments(2));
        payments("", 0, 0);
        payments("o0,1,5;", 1, 5);
        payments("o0,1,5;o1,2,5;", 1, 5);
        payments("o0,1,5;o1,2,5;o2,0,5;", 0, 0);
        payments("o0,1,5;o1,2,7;", 2, 7);
        payments("o1,0,5;o2,0,7;", 2, 12);
        payments("o0,1,5;o2,3,5;o4,5,5;", 3, 15);
        payments("o0,1,5;o2,3,6;o4,5,7;", 3, 18);
        // NETS -1 -2 3 | -4 -5 9: two groups, told so that no pair is even by itself.
        payments("o0,2,1;o1,2,2;o3,5,4;o4,5,5;", 4, 12);
        payments("o0,5,1;o1,5,2;o3,5,4;o4,5,2;o4,2,3;", 4, 12);
        // NETS -1 -2 -4 -8 -16 31: one group of all.
        payments("o0,5,1;o1,5,2;o2,5,4;o3,5,8;o4,5,16;", 5, 31);
        BellDebts x = Due.valley("v0;p0,0;p0,0;");
        DUE.is("payments(2)", BAD, x.payments(2));
        DUE.is("payments(-1)", BAD, x.payments(-1));
    }

    private static void circle(String debts, int which, int least) {
        BellDebts x = Due.valley("v0;p0,0;p0,0;p0,0;p0,0;" + debts);
        DUE.is("circle(0) of " + debts, which, x.circle(0));
        DUE.is("circle(1) of " + debts, least, x.circle(1));
    }

    private static void promise22() {
        DUE.is("no valley, STATE ahead of BAD", STATE, new BellDebts().circle(2));
        circle("", NONE, NONE);
        circle("o0,1,5;o1,2,5;o0,2,5;", NONE, NONE);
        circle("o0,1,5;o1,2,4;o2,0,6;", 12, 4);
        circle("o0,1,3;o1,2,4;o2,0,6;", 12, 3);
        circle("o0,1,9;o1,2,9;o2,0,8;", 12, 8);
        circle("o0,1,9;o1,2,1;o2,0,8;", 12, 1);
        circle("o1,0,5;o2,1,5;o0,2,5;", 21, 5);
        circle("o1,2,5;o2,3,5;o3,1,5;", 123, 5);
        circle("o0,3,7;o3,1,9;o1,0,9;o1,2,1;o2,3,1;", 31, 7);
        circle("o0,2,7;o2,3,9;o3,0,9;o3,1,1;o1,2,1;", 23, 7);
        circle("o0,1,5;o1,2,5;o2,3,5;o3,0,5;", NONE, NONE);
        BellDebts x = Due.valley("v0;p0,0;p0,0;");
        DUE.is("two bells", NONE, x.circle(0));
        DUE.is("circle(2)", BAD, x.circle(2));
        DUE.is("circle(-1)", BAD, x.circle(-1));
    }

    private static void promise23() {
        BellDebts x = Due.valley("v0;p0,5;c0,0;");
        DUE.is("more(0, 1)", 5, x.more(0, 1));
        DUE.is("more(1, 30)", 0, x.more(1, 30));
        x.days(4);
        DUE.is("was silent", 20, x.bell(0, 2));
        DUE.is("not any more", 5, x.more(0, 30));
        x = Due.valley("v0;w0,9;c0,0;");
        DUE.is("on one day", 9, x.more(0, 1));
        DUE.is("ten on odd days", NONE, x.more(0, 2));
        x = Due.valley("v4;p0,3;p2,0;");
        DUE.is("two are lent", 1, x.more(0, 2));
        DUE.is("but in frost one, and one is less", 3, x.more(0, 3));
        x.mend(0, 99);
        DUE.is("it has enough", 0, x.more(0, 30));
        int[][] bad = {{2, 1}, {-1, 1}, {0, 0}, {0, 31}};
        for (int[] b : bad) {
            DUE.is("more(" + b[0] + ", " + b[1] + ")", BAD, x.more(b[0], b[1]));
        }
        DUE.is("no valley", BAD, new BellDebts().more(0, 1));
    }

    private static void fits(BellDebts x, int n, int sorts, int haves, int needs, int frosts) {
        int[] bits = {sorts, haves, needs, frosts};
        for (int what = 0; what < 4; what++) {
            DUE.is("fits(0, 1, 0, 0, " + n + ", " + what + ")", bits[what], x.fits(0, 1, 0, 0, n, what));
        }
    }

    private static void promise24() {
        BellDebts x = Due.valley("v0;p0,2;p5,0;");
        x.row(0, 2, 3);
        x.set(0, 0, 10);
        fits(x, 1, 2, 1, 4, 65535);
        x.set(0, 0, 0);
        fits(x, 1, 4 + 16 + 32, 1020, 1, 0);
        x.set(0, 0, 12);
        fits(x, 1, 8, 0, 0, 0);
        x.set(0, 0, 5);
        fits(x, 1, 0, 2, 2, 0);
        x.set(0, 0, 25);
        fits(x, 1, 0, 0, 992, 0);
        x = Due.valley("v0;p0,9;p5,0;");
        x.row(0, 1, 3);
        x.set(0, 0, 20);
        x.set(0, 1, 45);
        DUE.is("frost on DAY 0, not on 1", 8738, x.fits(0, 1, 0, 0, 2, 3));
        DUE.is("frost on DAY 0", 43690, x.fits(0, 1, 0, 0, 1, 3));
        x.days(1);
        DUE.is("from now on, items from 1 on: no frost on DAY 1 leaves 50", 0b1100110011001100, x.fits(0, 1, 0, 1, 1, 3));
        // One for weddings is silent itself on odd days, and lends to nobody.
        x = Due.valley("v0;w1,1;p1,0;p9,9;");
        x.row(0, 0, 40);
        x.set(0, 29, 5);
        x.set(0, 30, 5);
        x.set(0, 31, 10);
        DUE.is("items 28 to 31", 2, x.fits(0, 1, 0, 28, 4, 0));
        DUE.is("items 28 to 31 by HAVES", 2, x.fits(0, 1, 0, 28, 4, 1));
        DUE.is("items 28 to 31 by NEEDS", 2, x.fits(0, 1, 0, 28, 4, 2));
        // Frost on an odd DAY takes what would be lent, on an even one, when bell 0 would borrow, too.
        DUE.is("items 28 to 31 by FROSTS", 51, x.fits(0, 1, 0, 28, 4, 3));
        DUE.is("twelve", 0, x.fits(0, 1, 0, 28, 12, 0));
        BellDebts y = Due.valley("v0;p0,0;p0,0;o0,1,9;");
        y.row(7, 0, 12);
        for (int i = 0; i < 12; i++) {
            y.set(7, i, 9);
        }
        DUE.is("twelve that fit", 65535, y.fits(0, 1, 7, 0, 12, 3));
        DUE.is("the other way", 0, y.fits(1, 0, 7, 0, 12, 3));
    }

    private static void promise24Refused() {
        BellDebts x = Due.valley("v0;p0,0;p0,0;");
        x.row(0, 2, 40);
        int[][] bad = {{0, 0, 0, 0, 1, 0}, {2, 0, 0, 0, 1, 0}, {0, 2, 0, 0, 1, 0}, {-1, 0, 0, 0, 1, 0},
            {0, -1, 0, 0, 1, 0}, {0, 1, 8, 0, 1, 0}, {0, 1, -1, 0, 1, 0}, {0, 1, 0, 0, 0, 0}, {0, 1, 0, 0, 13, 0},
            {0, 1, 0, 0, -1, 0}, {0, 1, 0, 0, 1, 4}, {0, 1, 0, 0, 1, -1}, {0, 1, 1, 0, 13, 0}, {0, 1, 0, 99, 1, 4}};
        for (int[] b : bad) {
            DUE.is("fits(" + b[0] + ", " + b[1] + ", " + b[2] + ", " + b[3] + ", " + b[4] + ", " + b[5] + ")", BAD,
                x.fits(b[0], b[1], b[2], b[3], b[4], b[5]));
        }
        DUE.is("NULL ahead of PLACE", -1000011, x.fits(0, 1, 1, -1, 1, 0));
        DUE.is("PLACE -1", -1000012, x.fits(0, 1, 0, -1, 1, 0));
        DUE.is("PLACE 40", -1000012, x.fits(0, 1, 0, 40, 1, 0));
        DUE.is("PLACE 29, 12", -1000012, x.fits(0, 1, 0, 29, 12, 0));
        DUE.is("PLACE MAX", -1000012, x.fits(0, 1, 0, Integer.MAX_VALUE, 12, 0));
        DUE.is("28, 12", 62, x.fits(0, 1, 0, 28, 12, 0));
        DUE.is("no valley", BAD, new BellDebts().fits(0, 1, 0, 0, 1, 0));
    }

    private static void stones(BellDebts x, int bell, int c, int above, int below) {
        DUE.is("stones(" + bell + ", " + c + ", 0)", above, x.stones(bell, c, 0));
        DUE.is("stones(" + bell + ", " + c + ", 1)", below, x.stones(bell, c, 1));
    }

    private static void promise25() {
        BellDebts x = Due.valley("v0;p1,1;p0,0;");
        stones(x, 0, 3, 3, 10);
        stones(x, 0, 0, 0, 1);
        stones(x, 0, 10, 1, 1);
        stones(x, 1, 3, 0, 1);
        x = Due.valley("v0;p1,1;p1,0;p0,1;");
        // Bell 0 borrows ahead of bell 2, which has none itself.
        stones(x, 0, 3, 9, 100);
        stones(x, 0, 5, 1, 4);
        stones(x, 2, 3, 51, 100);
        x = Due.valley("v0;p0,2;p1,0;");
        stones(x, 0, 4, 1, 1);
        x = Due.valley("v1;p2,1;c0,0;");
        stones(x, 0, 7, 7, 10);
        x.mend(0, 1);
        stones(x, 0, 7, 1, 1);
        x.days(1);
        stones(x, 0, 7, 7, 10);
        x = Due.valley("v0;d1,0;d1,0;d1,0;d1,0;d1,0;p1,1;");
        stones(x, 5, 1, 1, 1000000);
        stones(x, 5, 9, 531441, 1000000);
        stones(x, 5, 3, 729, 1000000);
        int[][] bad = {{6, 0, 0}, {-1, 0, 0}, {0, 11, 0}, {0, -1, 0}, {0, 0, 2}, {0, 0, -1}};
        for (int[] b : bad) {
            DUE.is("stones(" + b[0] + ", " + b[1] + ", " + b[2] + ")", BAD, x.stones(b[0], b[1], b[2]));
        }
        DUE.is("no valley", BAD, new BellDebts().stones(0, 0, 0));
    }

    private static void promise26() {
        DUE.is("no valley, STATE ahead of BAD", STATE, new BellDebts().drawn(61, 0, 2));
        // X of seed 1: 16807, 282475249, 1622650073, 984943658, 1144108930.
        int[] silent = {0, 7, 16, 19, 30, 33};
        BellDebts x = Due.valley("v0;c0,0;c0,0;");
        for (int n = 0; n < silent.length; n++) {
            DUE.is("drawn(" + n + ", 1, 0)", silent[n], x.drawn(n, 1, 0));
        }
        int[] silent2 = {0, 0, 0, 0, 2, 2};
        int[] owed = {0, 35, 80, 95, 100, 115};
        x = Due.valley("v0;p9,0;p0,0;");
        for (int n = 0; n < owed.length; n++) {
            DUE.is("drawn(" + n + ", 1, 0) lent", silent2[n], x.drawn(n, 1, 0));
            DUE.is("drawn(" + n + ", 1, 1) lent", owed[n], x.drawn(n, 1, 1));
        }
        x = Due.valley("v0;c0,5;c0,0;");
        x.days(3);
        DUE.is("in it", 12, x.drawn(1, 1, 0));
        DUE.is("NEEDS stays", 0, x.bell(1, 1));
        // The draws of 60 years alone: each NEEDS lasts until the next draw of its bell.
        x = Due.valley("v0;c0,0;c0,0;c0,0;");
        long draw = 999999;
        int[] needs = new int[3];
        int sum = 0;
        for (int d = 0; d < 60; d++) {
            draw = draw * 16807 % 2147483647L;
            needs[(int) (draw % 3)] = (int) (draw % 10);
            sum += needs[0] + needs[1] + needs[2];
        }
        DUE.is("drawn(60, 999999, 0)", sum, x.drawn(60, 999999, 0));
        int[][] bad = {{61, 1, 0}, {-1, 1, 0}, {0, 0, 0}, {0, 1000000, 0}, {0, -7, 0}, {0, 1, 2}, {0, 1, -1}};
        for (int[] b : bad) {
            DUE.is("drawn(" + b[0] + ", " + b[1] + ", " + b[2] + ")", BAD, x.drawn(b[0], b[1], b[2]));
        }
    }

    private static void promise27and28() {
        BellDebts x = new BellDebts();
        DUE.is("image(2)", BAD, x.image(2));
        DUE.is("image(-1)", BAD, x.image(-1));
        DUE.is("image(0), no valley", STATE, x.image(0));
        DUE.is("restore(2)", BAD, x.restore(2));
        DUE.is("restore(-1)", BAD, x.restore(-1));
        DUE.is("restore(0), none", STATE, x.restore(0));
        Due.read(x, "v7;p0,4;w3,3;f1,1;o0,1,9;");
        x.days(2);
        DUE.is("image(1)", 1, x.image(1));
        DUE.is("restore(0), none yet", STATE, x.restore(0));
        int[] counts = new int[8];
        for (int what = 0; what < 8; what++) {
            counts[what] = x.count(what);
        }
        int silent = x.bell(0, 2);
        x.days(3);
        x.mend(0, 50);
        x.lend(1, 0, 9);
        DUE.is("image(0)", 1, x.image(0));
        Due.read(x, "v0;d1,1;d1,1;");
        DUE.is("restore(1)", 1, x.restore(1));
        for (int what = 0; what < 6; what++) {
            DUE.is("count(" + what + ") restored", counts[what], x.count(what));
        }
        DUE.is("no act", 0, x.count(6));
        DUE.is("nothing to undo", STATE, x.undo());
        DUE.is("HAS", 0, x.bell(0, 0));
        DUE.is("NEEDS", 4, x.bell(0, 1));
        DUE.is("SILENT", silent, x.bell(0, 2));
        DUE.is("kind(1)", 5, x.kind(1));
        DUE.is("owes(0, 1)", 9, x.owes(0, 1));
        x.mend(0, 77);
        DUE.is("restore(1) again", 1, x.restore(1));
        DUE.is("HAS again", 0, x.bell(0, 0));
        DUE.is("restore(0)", 1, x.restore(0));
        DUE.is("HAS of image 0", 50, x.bell(0, 0));
        DUE.is("DAY of image 0", 5, x.count(2));
        x.mend(0, 1);
        DUE.is("an image anew", 1, x.image(0));
        x.undo();
        x.restore(0);
        DUE.is("HAS of it", 1, x.bell(0, 0));
    }

    private static void nothingChanges() {
        BellDebts x = Due.valley("v9;p1,4;w3,3;f6,1;o0,1,9;o1,2,3;o2,0,1;");
        x.days(3);
        x.row(0, 0, 12);
        int[] state = stateOf(x);
        x.ahead(0, 1, 60);
        x.later(0, 60, 1);
        x.even();
        x.first(0);
        x.payments(0);
        x.circle(0);
        x.more(0, 30);
        for (int what = 0; what < 4; what++) {
            x.fits(0, 1, 0, 0, 12, what);
        }
        x.stones(0, 3, 0);
        x.drawn(60, 5, 0);
        x.image(0);
        x.ask(0, 0);
        x.as(0, 0);
        int[] behind = stateOf(x);
        for (int k = 0; k < state.length; k++) {
            DUE.is("unchanged " + k, state[k], behind[k]);
        }
    }

    private static int[] stateOf(BellDebts x) {
        int[] state = new int[8 + 18 + 6];
        int at = 0;
        for (int what = 0; what < 8; what++) {
            state[at++] = x.count(what);
        }
        for (int k = 0; k < 18; k++) {
            state[at++] = x.bell(k / 6, k % 6);
        }
        for (int k = 0; k < 6; k++) {
            state[at++] = x.owes(k / 2, (k / 2 + 1 + k % 2) % 3);
        }
        return state;
    }
}
