/** Promises 6 to 8: the tape, a VALLEY that is read, FAULTS. */
public final class TapeTest {
    private static final Due DUE = new Due("TapeTest");

    public static void main(String[] args) {
        promise6();
        promise7();
        promise7StandsInPlace();
        promise8();
        DUE.end();
    }

    private static void promise6() {
        BellDebts x = new BellDebts();
        DUE.is("feed(0)", 1, x.feed(0));
        DUE.is("feed(255)", 2, x.feed(255));
        DUE.is("feed(-1)", BellDebts.BAD, x.feed(-1));
        DUE.is("feed(256)", BellDebts.BAD, x.feed(256));
        DUE.is("count(7)", 2, x.count(7));
        for (int n = 3; n <= 160; n++) {
            DUE.is("byte " + n, n, x.feed('v'));
        }
        DUE.is("feed beyond 160", BellDebts.FULL, x.feed('v'));
        DUE.is("BAD ahead of FULL", BellDebts.BAD, x.feed(256));
        DUE.is("count(7) when full", 160, x.count(7));
    }

    private static void fault(String text, int place, int number) {
        BellDebts x = Due.valley("v5;p1,2;w3,4;o0,1,6;");
        x.days(1);
        DUE.is("valley() of " + text, -1000100 - place, Due.read(x, text));
        DUE.is("fault() of " + text, number, x.fault());
        DUE.is("the tape is empty behind " + text, 0, x.count(7));
        DUE.is("the valley stays behind " + text, 2, x.count(1));
        DUE.is("the day stays behind " + text, 1, x.count(2));
        DUE.is("the frost stays behind " + text, 5, x.count(3));
        DUE.is("the acts stay behind " + text, 1, x.count(6));
        DUE.is("the debt stays behind " + text, 6, x.owes(0, 1));
    }

    private static void promise7() {
        String whole = "v15;p0,9;d09,00;f1,2;c3,4;w5,6;p7,8;o0,1,1;o5,4,99;";
        BellDebts x = new BellDebts();
        DUE.is("valley() of " + whole, 6, Due.read(x, whole));
        int[][] bells = {{0, 9, 1}, {9, 0, 2}, {1, 2, 3}, {3, 4, 4}, {5, 6, 5}, {7, 8, 1}};
        for (int b = 0; b < 6; b++) {
            DUE.is("HAS of " + b, bells[b][0], x.bell(b, 0));
            DUE.is("NEEDS of " + b, bells[b][1], x.bell(b, 1));
            DUE.is("KIND of " + b, bells[b][2], x.kind(b));
        }
        DUE.is("owes(0, 1)", 1, x.owes(0, 1));
        DUE.is("owes(5, 4)", 99, x.owes(5, 4));
        DUE.is("owes(4, 5)", 0, x.owes(4, 5));
        DUE.is("count(3)", 15, x.count(3));
        DUE.is("count(4)", 100, x.count(4));
        DUE.is("fault()", 0, x.fault());
        // Each text that ends too early has its FAULT at its end, but where it is whole already.
        for (int n = 0; n < whole.length(); n++) {
            if (whole.lastIndexOf(';', n - 1) != n - 1 || n < whole.indexOf('f')) {
                fault(whole.substring(0, n), n, 1);
            } else {
                DUE.is("whole as far as " + n, 1, Due.read(new BellDebts(), whole.substring(0, n)) >= 2 ? 1 : 0);
            }
        }
        faultsOfOneToken();
        faultsOfDebts();
    }

    private static void faultsOfOneToken() {
        fault("p1,1;", 0, 1);
        fault("V1;", 0, 1);
        fault("1", 0, 1);
        fault(" v1;", 0, 1);
        fault("v 1;", 1, 1);
        fault("v;", 1, 1);
        fault("v16;", 1, 2);
        fault("v99;", 1, 2);
        fault("v001;", 1, 1);
        fault("v016;p1", 1, 1);
        fault("v1,p", 2, 1);
        fault("v1;1", 3, 1);
        fault("v1;v", 3, 1);
        fault("v1;x1,1;", 3, 1);
        fault("v1;p10,1;", 4, 2);
        fault("v1;p100,1;", 4, 1);
        fault("v1;p,1;", 4, 1);
        fault("v1;p1;1;", 5, 1);
        fault("v1;p1,10;", 6, 2);
        fault("v1;p1,;", 6, 1);
        fault("v1;p1,1,", 7, 1);
        fault("v1;p1,1;o0,1,1;", 8, 1);
        fault("v1;p1,1;p1,1;p1,1;p1,1;p1,1;p1,1;p", 33, 3);
        fault("v1;p1,1;p1,1;p1,1;p1,1;p1,1;p1,1;w10", 33, 3);
        fault("v1;p1,1;p1,1;p1,1;p1,1;p1,1;p1,1;x", 33, 1);
        fault("v1;p1,1;p1,1;p1,1;p1,1;p1,1;p1,1;o0,1,1;p1,1;", 40, 1);
        fault("v1;p1,1;p1,1;" + (char) 233, 13, 1);
        fault("v1;p1,1;p1,1;7", 13, 1);
    }

    private static void faultsOfDebts() {
        String two = "v1;p1,1;p1,1;";
        DUE.is("valley() of two", 2, Due.read(new BellDebts(), two));
        fault(two + "o2,0,1;", 14, 2);
        fault(two + "o02,0,1;", 14, 2);
        fault(two + "o000,1,1;", 14, 1);
        fault(two + "oo", 14, 1);
        fault(two + "o0;1,1;", 15, 1);
        fault(two + "o0,2,1;", 16, 2);
        fault(two + "o0,0,1;", 16, 2);
        fault(two + "o0,0", 16, 2);
        fault(two + "o0,111,1;", 16, 1);
        fault(two + "o0,;", 16, 1);
        fault(two + "o0,1;", 17, 1);
        fault(two + "o0,1,0;", 18, 2);
        fault(two + "o0,1,00;", 18, 2);
        fault(two + "o0,1,100;", 18, 1);
        fault(two + "o0,1,1,", 19, 1);
        fault(two + "o0,1,1;o0,1,1;", 23, 2);
        fault(two + "o0,1,1;o1,0,1;", 23, 2);
        fault(two + "o0,1,1;o1,00,0;", 23, 2);
        fault(two + "o0,1,1;w1,1;", 20, 1);
        BellDebts x = Due.valley(two + "o01,00,09;");
        DUE.is("figures with a 0 ahead", 9, x.owes(1, 0));
        String longest = "v01;p01,01;p01,01;p01,01;p01,01;p01,01;p01,01;";
        DUE.is("valley() of six", 6, Due.read(new BellDebts(), longest));
        String debts = longest;
        for (int one = 0; one < 6; one++) {
            for (int other = one + 1; other < 6; other++) {
                debts += "o" + one + "," + other + ",9;";
            }
        }
        DUE.is("bytes of all debts", 151, debts.length());
        DUE.is("all debts", 135, Due.valley(debts).count(4));
    }

    private static void promise7StandsInPlace() {
        BellDebts x = Due.valley("v15;p0,3;c0,9;p0,0;o0,1,9;");
        x.row(5, 1, 3);
        x.image(1);
        x.days(3);
        x.ask(0, 0);
        DUE.is("silent ahead", 36, x.count(5));
        DUE.is("read anew", 2, Due.read(x, "v2;p4,4;f4,4;"));
        int[] counts = {1, 2, 0, 2, 0, 0, 0, 0};
        for (int what = 0; what < 8; what++) {
            DUE.is("count(" + what + ") of the new one", counts[what], x.count(what));
        }
        DUE.is("bell 0 was not silent", 0, x.bell(0, 2));
        DUE.is("no bell 2 any more", BellDebts.BAD, x.bell(2, 0));
        DUE.is("no act", BellDebts.STATE, x.undo());
        DUE.is("the image stays", 1, x.restore(1));
        DUE.is("its bells", 3, x.count(1));
        DUE.is("its debt", 9, x.owes(0, 1));
    }

    private static void promise8() {
        BellDebts x = new BellDebts();
        DUE.is("none", 0, x.fault());
        Due.read(x, "v16;");
        DUE.is("2", 2, x.fault());
        Due.read(x, "v1;p1,1;p1,1;");
        DUE.is("it stays behind one that is read", 2, x.fault());
        Due.read(x, "v1;p1,1;p1,1;p1,1;p1,1;p1,1;p1,1;p");
        DUE.is("3", 3, x.fault());
        x.valley();
        DUE.is("1", 1, x.fault());
    }
}
