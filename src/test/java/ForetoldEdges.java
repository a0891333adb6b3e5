/** What is foretold: part 3 of the Terms without its KINDS, and promises 17 to 28. */
final class ForetoldEdges {
    private static final String TWO = "v0;p0,0;p0,0;";
    private static final String THREE = "v0;p0,0;p0,0;p0,0;";
    private static final String SIX = "v0;p0,0;p0,0;p0,0;p0,0;p0,0;p0,0;";

    private final Sentences s;

    private ForetoldEdges(Sentences s) {
        this.s = s;
    }

    static void run(Sentences s) {
        ForetoldEdges edges = new ForetoldEdges(s);
        s.section("Terms 3");
        edges.nothingChanges();
        edges.daysOn();
        edges.even();
        edges.first();
        edges.payments();
        edges.circle();
        edges.more();
        edges.fits();
        edges.stones();
        edges.years();
        edges.promises17And18();
        edges.promises19To22();
        edges.promise23();
        edges.promise24();
        edges.promise25();
        edges.promise26();
        edges.promise27();
        edges.promise28();
    }

    /** As far as the last DAY, 999. */
    private static Told last(Told x) {
        for (int k = 0; k < 41; k++) {
            x.after("days 24");
        }
        return x.after("days 15");
    }

    private void nothingChanges() {
        s.says("FORETOLD (nothing changes; DAYS go on past 999, too)");
        // Frost on each DAY that leaves 3: 249 of them as far as 999, which is one, and 15 of the 60 from it on.
        Told x = last(s.valley("v8;c1,1;p1,0;o0,1,99;")).due("count 2 = 999", "bell 0 2 = 249", "days 1 = FULL");
        x.due("later 0 0 0 = 249", "later 0 1 0 = 250", "later 0 4 0 = 250", "later 0 5 0 = 251", "later 0 60 0 = 264");
        x.due("first 0 = 0", "first 1 = 1", "more 0 1 = 1", "ahead 0 1 60 = 99", "even = NONE", "count 2 = 999");
        x.due("row 0 2 12 = 12", "set 0 11 99 = 99", "fits 0 1 0 11 1 0 = 62", "stones 0 3 0 = 1", "stones 0 3 1 = 1");
        x.due("drawn 0 5 1 = 99", "drawn 0 5 0 = 0", "count 2 = 999", "count 4 = 99", "count 5 = 249");
        for (String call : new String[] {"ahead 0 1 60", "later 2 60 0", "later 1 60 1", "even", "first 0", "first 1",
            "payments 0", "payments 1", "circle 0", "circle 1", "more 0 30", "stones 2 5 0", "stones 2 5 1", "drawn 60 77 0",
            "drawn 60 77 1"}) {
            Twins.unchanged(s, Twins.Ahead.RICH, call + " = " + rich(call), false);
        }
        for (int what = 0; what < 4; what++) {
            String call = "fits 0 1 0 0 2 " + what;
            Twins.unchanged(s, Twins.Ahead.RICH, call + " = " + rich(call), true);
        }
    }

    /** What the call answers on such an object; what it should is told by other sentences. */
    private int rich(String call) {
        return Twins.made(s, Twins.Ahead.RICH).call(call);
    }

    private void daysOn() {
        s.says("d DAYS on (0 to 60):");
        Told x = s.valley("v0;p0,1;p1,0;").each("ahead 0 1 # = BAD", -1, 61).each("later 0 # 1 = BAD", -1, 61);
        x.due("ahead 0 1 0 = 0", "ahead 0 1 1 = 5", "ahead 0 1 59 = 295", "ahead 0 1 60 = 300");
        x.due("later 0 0 1 = 0", "later 0 1 1 = -5", "later 0 60 1 = -300", "later 1 60 1 = 300");
        x.due("days 1 = 5", "ahead 0 1 0 = 5", "ahead 0 1 60 = 305", "later 0 60 1 = -305");
        s.says("what one owes another (0: nothing);");
        x = s.valley("v0;p0,1;p1,0;o1,0,7;").due("ahead 0 1 0 = 0", "ahead 1 0 0 = 7", "ahead 0 1 1 = 0", "ahead 1 0 1 = 2");
        x.due("ahead 0 1 2 = 3", "ahead 1 0 2 = 0", "owes 1 0 = 7");
        s.valley(TWO).due("ahead 0 1 60 = 0", "ahead 1 0 60 = 0");
        s.says("how long a BELL was SILENT;");
        s.valley("v0;c0,1;c0,0;").due("days 2 = 0", "later 0 0 0 = 2", "later 0 1 0 = 3", "later 0 60 0 = 62",
            "later 1 60 0 = 0");
        s.says("its NET: what all owe it, less what it owes.");
        s.valley(THREE + "o0,1,9;o2,0,4;").due("later 0 0 1 = -5", "later 1 0 1 = 9", "later 2 0 1 = -4", "bell 0 3 = -5",
            "later 0 60 1 = -5");
    }

    private void even() {
        s.says("EVEN: behind how many DAYS (0 to 60) nobody owes anything first; NONE.");
        s.valley(TWO).due("even = 0");
        s.valley("v0;p1,0;p0,0;o0,1,1;").due("even = 1");
        s.valley("v0;p1,0;p0,0;o0,1,4;").due("even = 1");
        s.valley("v0;p1,0;p0,0;o0,1,5;").due("even = 2");
        // 60 strokes pay 240 QUARTERS.
        Told x = s.valley("v0;p1,0;p0,0;").after("lend 0 1 9", "lend 0 1 9", "lend 0 1 9", "lend 0 1 9", "lend 0 1 9");
        x.due("lend 0 1 2 = 235", "even = 59", "pay 0 1 3 = 232", "even = 58", "lend 0 1 1 = 237", "even = 60");
        x.due("pay 0 1 1 = 236", "even = 59", "lend 0 1 1 = 241", "even = NONE", "pay 0 1 1 = 240", "even = 60", "count 2 = 0");
        s.valley(TWO + "o0,1,1;").due("even = NONE");
        // First: on the DAYS behind it is owed again.
        s.valley("v0;p1,0;w1,1;").due("even = 0");
        s.valley("v0;p1,0;w1,1;o0,1,4;").due("even = 1", "ahead 1 0 2 = 5");
    }

    private void first() {
        s.says("FIRST: the BELL that is SILENT first (more than now), of several the least; "
            + "behind how many DAYS (1 to 60); NONE.");
        s.valley(TWO).due("first 0 = NONE", "first 1 = NONE");
        s.valley("v0;c0,0;c0,1;c0,1;").due("first 0 = 1", "first 1 = 1");
        s.valley(SIX).due("first 0 = NONE", "first 1 = NONE");
        s.valley("v0;c0,0;c0,0;c0,0;c0,0;c0,0;c0,1;").due("first 0 = 5", "first 1 = 1");
        // Frost on DAY 3: behind four; seen from the DAY behind it, four again.
        Told x = s.valley("v8;c0,0;p0,0;c1,1;").due("first 0 = 2", "first 1 = 4", "days 3 = 0", "first 1 = 1", "days 1 = 0");
        x.due("bell 2 2 = 1", "first 0 = 2", "first 1 = 4");
        // First in time, though another one has a lesser number; more than now, though another one was SILENT.
        s.valley("v8;c1,1;w0,0;").due("first 0 = 1", "first 1 = 2");
        x = s.valley("v1;c1,1;w0,0;").due("first 0 = 0", "first 1 = 1", "days 1 = 0", "first 0 = 1", "first 1 = 1", "days 1 = 0");
        x.due("bell 0 2 = 1", "bell 1 2 = 1", "first 0 = 1", "first 1 = 2", "days 2 = 0", "first 0 = 0", "first 1 = 1");
        s.valley("v0;c0,1;c0,0;").due("days 1 = 0", "mend 0 1 = 0", "bell 0 2 = 1", "first 0 = NONE", "first 1 = NONE");
    }

    private void due(String debts, int how, int quarters) {
        s.valley(SIX + debts).due("payments 0 = " + how, "payments 1 = " + quarters);
    }

    private void payments() {
        s.says("PAYMENTS: the fewest payments, each from one BELL to another, any QUARTERS, behind which all NETS are 0: "
            + "how many; how many QUARTERS all together that change hands, at least.");
        due("", 0, 0);
        due("o0,5,1;", 1, 1);
        // Rings and chains: NETS that are 0 already need none.
        due("o0,1,5;o1,2,5;o2,0,5;", 0, 0);
        due("o0,1,5;o1,2,5;o2,3,5;o3,4,5;o4,5,5;", 1, 5);
        // Of all six, five at most; of pairs three; of two threes four; of a pair and four others four.
        due("o0,5,1;o1,5,2;o2,5,4;o3,5,8;o4,5,16;", 5, 31);
        due("o5,0,1;o5,1,2;o5,2,4;o5,3,8;o5,4,16;", 5, 31);
        due("o0,1,5;o2,3,6;o4,5,7;", 3, 18);
        due("o0,1,5;o1,2,5;o2,3,5;o4,5,5;", 2, 10);
        due("o0,2,1;o1,2,2;o3,5,4;o4,5,5;", 4, 12);
        due("o0,1,9;o2,5,1;o3,5,2;o4,5,4;", 4, 16);
        // NETS of -3 -3 -3 3 3 3: in pairs, whoever owes whom.
        due("o0,3,1;o0,4,1;o0,5,1;o1,3,1;o1,4,1;o1,5,1;o2,3,1;o2,4,1;o2,5,1;", 3, 9);
        // NETS of -3 -3 2 2 2 0: five that stand together, in no group.
        due("o0,2,2;o0,3,1;o1,3,1;o1,4,2;", 4, 6);
        s.valley(TWO + "o1,0,99;").due("payments 0 = 1", "payments 1 = 99");
    }

    private void ring(String debts, int which, int least) {
        s.valley(SIX + debts).due("circle 0 = " + which, "circle 1 = " + least);
    }

    private void circle() {
        s.says("CIRCLE: three BELLS, a the least of them, a owes b, b owes c, c owes a: "
            + "the first (100 a, 10 b, and c), the least of these debts; NONE.");
        ring("", BellDebts.NONE, BellDebts.NONE);
        ring("o0,1,5;o1,2,5;o0,2,5;", BellDebts.NONE, BellDebts.NONE);
        ring("o0,1,5;o1,2,5;o2,3,5;o3,0,5;", BellDebts.NONE, BellDebts.NONE);
        ring("o0,1,1;o1,2,2;o2,0,3;", 12, 1);
        ring("o0,1,2;o1,2,1;o2,0,3;", 12, 1);
        ring("o0,1,3;o1,2,2;o2,0,1;", 12, 1);
        ring("o0,2,7;o2,1,8;o1,0,9;", 21, 7);
        ring("o5,3,9;o3,4,9;o4,5,8;", 345, 8);
        ring("o4,3,9;o3,5,9;o5,4,8;", 354, 8);
        // The first of two: by a, by b, by c.
        ring("o1,2,1;o2,3,1;o3,1,1;o0,4,9;o4,5,9;o5,0,9;", 45, 9);
        ring("o0,3,9;o3,1,9;o1,0,9;o0,5,1;o5,4,1;o4,0,1;", 31, 9);
        ring("o0,1,9;o1,2,9;o2,0,9;o1,3,1;o3,0,1;", 12, 9);
        s.valley(TWO + "o0,1,5;").due("circle 0 = NONE", "circle 1 = NONE");
    }

    private void more() {
        s.says("MORE for a BELL, n DAYS (1 to 30): how many strokes more it must have at least (0 to 9; what it HAS, 99 at "
            + "most) so that it is not SILENT any more in these; NONE.");
        for (int needs = 0; needs <= 9; needs++) {
            s.valley("v0;c0," + needs + ";c0,0;").due("more 0 1 = " + needs, "more 0 30 = " + needs);
        }
        // With frost, or a wedding, ten would be needed.
        s.valley("v1;c0,9;c0,0;").due("more 0 1 = NONE", "mend 0 1 = 0", "more 0 1 = 9", "mend 0 2 = 1", "more 0 1 = 8");
        s.valley("v0;w0,9;c0,0;").due("more 0 1 = 9", "more 0 2 = NONE", "more 0 30 = NONE", "mend 0 1 = 0", "more 0 30 = 9");
        // What others lend is counted.
        s.valley("v0;p0,5;p3,0;").due("more 0 30 = 2", "mend 0 2 = 0", "more 0 30 = 0");
        s.valley("v0;c0,9;c0,0;").due("mend 0 99 = 0", "more 0 30 = 0", "mend 0 98 = 99", "more 0 30 = 0", "bell 0 0 = 98");
        // Not any more: what it was SILENT before does not count.
        s.valley("v0;c0,4;c0,0;").due("days 3 = 0", "bell 0 2 = 12", "more 0 30 = 4", "mend 0 4 = 0", "more 0 30 = 0");
        // Frost on the fourth DAY alone.
        s.valley("v8;c1,1;c0,0;").due("more 0 3 = 0", "more 0 4 = 1", "days 3 = 0", "more 0 1 = 1");
    }

    private void fits() {
        s.says("A row tells what one owes another behind each of n DAYS (1 to 12) from now on.");
        Told x = s.valley("v0;p0,1;p1,0;").after("row 0 2 13");
        for (int d = 1; d <= 12; d++) {
            x.after("set 0 " + d + " " + 5 * d);
        }
        for (int n = 1; n <= 12; n++) {
            x.due("fits 0 1 0 1 " + n + " 0 = 2");
        }
        x.due("fits 0 1 0 1 13 0 = BAD", "fits 0 1 0 1 0 0 = BAD", "fits 0 1 0 0 1 0 = 52", "fits 0 1 0 2 11 0 = 0");
        x.due("set 0 12 61 = 61", "fits 0 1 0 1 12 0 = 0", "fits 0 1 0 1 11 0 = 2", "days 1 = 5", "fits 0 1 0 2 10 0 = 2");
        s.says("SORTS: KINDS (bits 1 to 5) of the other one by which it is so;");
        x = s.valley("v0;p0,2;p2,0;").after("row 0 0 1");
        x.due("set 0 0 10 = 10", "fits 0 1 0 0 1 0 = 2", "set 0 0 0 = 0", "fits 0 1 0 0 1 0 = 52", "set 0 0 12 = 12");
        x.due("fits 0 1 0 0 1 0 = 8", "set 0 0 11 = 11", "fits 0 1 0 0 1 0 = 0", "kind 1 = 1");
        s.valley(TWO).after("row 0 0 1").due("fits 0 1 0 0 1 0 = 62");
        // Of the other one, not of the one: as one for weddings bell 1 would borrow itself on an odd DAY.
        s.valley("v0;w1,1;p1,0;").after("row 0 0 2", "set 0 1 5").due("fits 0 1 0 0 2 0 = 2", "fits 1 0 0 0 1 0 = 62");
        s.says("HAVES (0 to 9, bits) of the one;");
        x = s.valley("v0;p0,9;p9,0;").after("row 0 0 1");
        for (int has = 0; has <= 9; has++) {
            x.due("set 0 0 " + 5 * (9 - has) + " = " + 5 * (9 - has), "fits 0 1 0 0 1 1 = " + (1 << has));
        }
        s.valley(TWO).after("row 0 0 1").due("fits 0 1 0 0 1 1 = 1023");
        s.valley("v0;p9,0;p0,0;").after("row 0 0 1", "mend 0 50").due("fits 0 1 0 0 1 1 = 1023", "bell 0 0 = 50");
        s.says("NEEDS (0 to 9, bits) of it;");
        x = s.valley("v0;p0,0;p9,0;").after("row 0 0 1");
        for (int needs = 0; needs <= 9; needs++) {
            x.due("set 0 0 " + 5 * needs + " = " + 5 * needs, "fits 0 1 0 0 1 2 = " + (1 << needs));
        }
        s.valley(TWO).after("row 0 0 1").due("fits 0 1 0 0 1 2 = 1023");
        s.says("FROSTS (0 to 15, bits).");
        // Frost on a DAY leaves 1 of 2 strokes that are paid with.
        x = s.valley("v0;p2,0;p0,0;o0,1,99;").after("row 0 0 4");
        for (int frost = 0; frost < 16; frost++) {
            int owed = 99;
            for (int d = 0; d < 4; d++) {
                owed -= (frost >> d) % 2 == 1 ? 4 : 8;
                x.after("set 0 " + d + " " + owed);
            }
            x.due("fits 0 1 0 0 4 3 = " + (1 << frost));
        }
        x.due("set 0 0 95 = 95", "fits 0 1 0 0 1 3 = 43690", "set 0 0 91 = 91", "fits 0 1 0 0 1 3 = 21845", "count 3 = 0");
        s.valley(TWO).after("row 0 0 1").due("fits 0 1 0 0 1 3 = 65535");
    }

    private void chance(Told x, int bell, int c, int above, int below) {
        x.due("stones " + bell + " " + c + " 0 = " + above, "stones " + bell + " " + c + " 1 = " + below);
    }

    private void stones() {
        s.says("STONES: on the next DAY each BELL HAS no strokes by c of 10, each by itself: "
            + "that a BELL is SILENT on it: a fraction.");
        Told x = s.valley("v0;p1,1;p1,0;");
        chance(x, 0, 0, 0, 1);
        chance(x, 0, 1, 1, 100);
        chance(x, 0, 5, 1, 4);
        chance(x, 0, 9, 81, 100);
        chance(x, 0, 10, 1, 1);
        chance(x, 1, 10, 0, 1);
        // SILENT in any case, and never.
        x = s.valley("v0;c0,1;c9,0;");
        chance(x, 0, 0, 1, 1);
        chance(x, 0, 3, 1, 1);
        chance(x, 1, 3, 0, 1);
        // All six, in a million.
        x = s.valley("v0;d1,0;d1,0;d1,0;d1,0;d1,0;p1,1;");
        chance(x, 5, 1, 1, 1000000);
        chance(x, 5, 9, 531441, 1000000);
        chance(x, 5, 10, 1, 1);
        // On the next DAY: with its frost, which takes none of none, and its weddings.
        x = s.valley("v1;c2,1;w1,1;").due("bell 0 2 = 0");
        chance(x, 0, 3, 3, 10);
        chance(x, 1, 3, 1, 1);
        chance(x.due("days 3 = 0"), 1, 3, 1, 1);
        chance(x.due("mend 1 2 = 1"), 1, 3, 3, 10);
        // What it was SILENT before does not count.
        x = s.valley("v0;c0,1;c0,0;").due("days 5 = 0", "mend 0 1 = 0");
        chance(x, 0, 4, 2, 5);
        chance(x, 0, 0, 0, 1);
    }

    private void years() {
        s.says("YEARS of n DAYS (0 to 60) by a SEED (X at first): ahead of each X becomes the rest of (X times 16807) by "
            + "2147483647; the BELL that is the rest of X by how many there are NEEDS the rest of X by 10 from then on; then the DAY:");
        // X from 1 on: 16807, 282475249, 1622650073, 984943658, 1144108930, 470211272, 101027544, 1457850878, 1458777923, 2007237709.
        int[] silent = {0, 7, 16, 19, 30, 33, 38, 45, 56, 67, 84};
        Told x = s.valley("v0;c0,0;c0,0;");
        for (int n = 0; n < silent.length; n++) {
            x.due("drawn " + n + " 1 0 = " + silent[n]);
        }
        // The same among six: BELLS 1, 1, 5, 2, 4.
        int[] ofSix = {0, 7, 16, 28, 48, 68};
        x = s.valley("v0;c0,0;c0,0;c0,0;c0,0;c0,0;c0,0;");
        for (int n = 0; n < ofSix.length; n++) {
            x.due("drawn " + n + " 1 0 = " + ofSix[n]);
        }
        // 60 DAYS by the greatest SEED: NEEDS last until they are drawn anew.
        long draw = 999999;
        int[] needs = new int[2];
        int sum = 0;
        for (int d = 0; d < 60; d++) {
            draw = draw * 16807 % 2147483647;
            needs[(int) (draw % 2)] = (int) (draw % 10);
            sum += needs[0] + needs[1];
        }
        s.valley("v0;c0,0;c0,0;").due("drawn 60 999999 0 = " + sum, "bell 0 1 = 0", "bell 1 1 = 0");
        s.says("how long all were SILENT in it, together;");
        s.valley("v0;c0,2;c0,3;").due("drawn 0 1 0 = 0", "days 4 = 0", "count 5 = 20", "drawn 0 1 0 = 0", "drawn 1 1 0 = 9");
        s.says("what all owe.");
        s.valley("v0;p9,0;p0,0;o0,1,50;").due("drawn 0 1 1 = 50", "drawn 1 1 1 = 7", "drawn 2 1 1 = 38", "count 4 = 50");
    }

    private void promises17And18() {
        s.section("Promise 17");
        s.says("What one owes another, d DAYS on.");
        s.valley("v0;p0,3;p2,0;o1,0,13;").due("ahead 1 0 0 = 13", "ahead 0 1 0 = 0", "ahead 1 0 1 = 3", "ahead 0 1 1 = 0",
            "ahead 1 0 2 = 0", "ahead 0 1 2 = 7", "ahead 0 1 60 = 587");
        s.says("BAD.");
        Told x = s.valley(TWO + "o0,1,9;").each("ahead # 1 1 = BAD", Told.MIN, -1, 1, 2, 6, Told.MAX);
        x.each("ahead 0 # 1 = BAD", Told.MIN, -1, 0, 2, 6, Told.MAX).each("ahead 0 1 # = BAD", Told.MIN, -1, 61, Told.MAX);
        x.each("ahead 0 1 # = 9", 0, 1, 60);
        s.fresh().due("ahead 0 1 0 = BAD");
        s.section("Promise 18");
        s.says("SILENT (what = 0), NET (1), d DAYS on.");
        s.valley("v0;p0,3;p2,0;o1,0,13;").due("later 0 0 0 = 0", "later 0 60 0 = 60", "later 1 60 0 = 0", "later 0 0 1 = 13",
            "later 0 1 1 = 3", "later 0 2 1 = -7", "later 1 2 1 = 7", "later 0 60 1 = -587");
        s.says("BAD.");
        x = s.valley(TWO).each("later # 1 0 = BAD", Told.MIN, -1, 2, 6, Told.MAX);
        x.each("later 0 # 0 = BAD", Told.MIN, -1, 61, Told.MAX).each("later 0 1 # = BAD", Told.MIN, -1, 2, Told.MAX);
        x.each("later 1 # 1 = 0", 0, 60);
        s.fresh().due("later 0 0 0 = BAD");
    }

    private void promises19To22() {
        s.section("Promise 19");
        s.says("EVEN; NONE.");
        s.valley("v0;p1,0;p0,0;o0,1,9;").due("even = 3", "days 1 = 5", "even = 2", "days 2 = 0", "even = 0");
        s.valley("v0;p0,0;p9,0;o0,1,9;").due("even = NONE", "forgive 0 1 = 9", "even = 0");
        s.says("STATE: no VALLEY.");
        s.fresh().due("even = STATE").faulty("v0;p0,0;", 8, 1).due("even = STATE").reads(TWO, 2).due("even = 0");
        s.section("Promise 20");
        s.says("FIRST: the BELL (what = 0), behind how many DAYS (1); NONE.");
        s.valley("v0;p3,3;w1,1;p0,0;").due("first 0 = 1", "first 1 = 2", "mend 1 2 = 1", "first 0 = NONE", "first 1 = NONE");
        refusedAheadOfBad("first");
        s.section("Promise 21");
        s.says("PAYMENTS: how many (what = 0), QUARTERS (1).");
        s.valley(THREE + "o0,1,5;o1,2,7;").due("payments 0 = 2", "payments 1 = 7", "forgive 0 1 = 5", "payments 0 = 1",
            "payments 1 = 7");
        refusedAheadOfBad("payments");
        s.section("Promise 22");
        s.says("CIRCLE: which (what = 0), the least debt (1); NONE.");
        s.valley(THREE + "o0,2,5;o2,1,4;o1,0,6;").due("circle 0 = 21", "circle 1 = 4", "pay 2 1 4 = 0", "circle 0 = NONE",
            "circle 1 = NONE");
        refusedAheadOfBad("circle");
    }

    /** What is 0, or 1: the sentences by which anything else is refused. */
    private void refusedAheadOfBad(String call) {
        s.says("BAD;");
        s.valley(TWO).each(call + " # = BAD", Told.MIN, -1, 2, Told.MAX);
        s.says("STATE: no VALLEY (ahead of BAD).");
        s.fresh().each(call + " # = STATE", Told.MIN, -1, 0, 1, 2, Told.MAX);
    }

    private void promise23() {
        s.section("Promise 23");
        s.says("MORE; NONE.");
        s.valley("v0;p0,5;c0,0;").due("more 0 1 = 5", "more 1 30 = 0", "more 0 30 = 5", "bell 0 0 = 0");
        s.valley("v15;c0,9;c0,0;").due("more 0 1 = NONE", "more 0 30 = NONE", "more 1 30 = 0");
        s.says("BAD.");
        Told x = s.valley(TWO).each("more # 1 = BAD", Told.MIN, -1, 2, 6, Told.MAX);
        x.each("more 0 # = BAD", Told.MIN, -1, 0, 31, Told.MAX).each("more 0 # = 0", 1, 30);
        s.fresh().due("more 0 1 = BAD");
    }

    private void promise24() {
        s.section("Promise 24");
        s.says("SORTS (what = 0), HAVES (1), NEEDS (2), FROSTS (3) by what one owes another, n ITEMS of a ROW from i on.");
        Told x = s.valley("v0;p0,2;p5,0;").after("row 7 2 40", "set 7 39 10");
        x.due("fits 0 1 7 39 1 0 = 2", "fits 0 1 7 39 1 1 = 1", "fits 0 1 7 39 1 2 = 4", "fits 0 1 7 39 1 3 = 65535");
        x.due("fits 0 1 7 38 2 0 = 0", "fits 0 1 7 38 1 0 = 52", "fits 0 1 7 28 12 0 = 0", "fits 0 1 7 0 12 0 = 52");
        x.due("set 7 0 10 = 10", "set 7 1 20 = 20", "fits 0 1 7 0 1 0 = 2", "fits 0 1 7 0 2 0 = 2", "fits 0 1 7 0 3 0 = 0");
        s.says("BAD: BELLS (alike, too), ROW, n, what;");
        x = s.valley(TWO).after("row 0 2 40");
        x.each("fits # 1 0 0 1 0 = BAD", Told.MIN, -1, 1, 2, 6, Told.MAX).each("fits 0 # 0 0 1 0 = BAD", Told.MIN, -1, 0, 2, 6, Told.MAX);
        x.each("fits 0 1 # 0 1 0 = BAD", Told.MIN, -1, 8, Told.MAX).each("fits 0 1 0 0 # 0 = BAD", Told.MIN, -1, 0, 13, 40, Told.MAX);
        x.each("fits 0 1 0 0 1 # = BAD", Told.MIN, -1, 4, Told.MAX).due("fits 0 1 1 0 13 0 = BAD", "fits 0 1 0 99 1 4 = BAD");
        x.due("fits 0 1 0 0 1 0 = 62", "fits 0 1 0 0 12 3 = 65535");
        s.fresh().after("row 0 0 1").due("fits 0 1 0 0 1 0 = BAD");
        s.says("NULL;");
        x.each("fits 0 1 # 0 1 0 = NULL", 1, 7).due("fits 0 1 1 -1 1 0 = NULL", "drop 0 = 40", "fits 0 1 0 0 1 0 = NULL");
        s.says("PLACE.");
        x.due("row 0 2 12 = 12").each("fits 0 1 0 # 1 0 = PLACE", Told.MIN, -1, 12, 40, Told.MAX);
        x.due("fits 0 1 0 11 1 0 = 62", "fits 0 1 0 0 12 0 = 62", "fits 0 1 0 1 12 0 = PLACE", "fits 0 1 0 11 2 0 = PLACE");
        x.due("fits 0 1 0 MAX 12 0 = PLACE", "row 0 2 11 = 11", "fits 0 1 0 0 12 0 = PLACE", "row 0 2 0 = 0", "fits 0 1 0 0 1 0 = PLACE");
    }

    private void promise25() {
        s.section("Promise 25");
        s.says("STONES (c 0 to 10): above (what = 0), below (1).");
        Told x = s.valley("v0;c1,1;c0,0;");
        x.due("stones 0 0 0 = 0", "stones 0 0 1 = 1", "stones 0 10 0 = 1", "stones 0 10 1 = 1", "stones 0 4 0 = 2",
            "stones 0 4 1 = 5", "stones 1 0 0 = 0", "stones 1 10 1 = 1");
        s.says("BAD.");
        x.each("stones # 1 0 = BAD", Told.MIN, -1, 2, 6, Told.MAX).each("stones 0 # 0 = BAD", Told.MIN, -1, 11, Told.MAX);
        x.each("stones 0 1 # = BAD", Told.MIN, -1, 2, Told.MAX);
        s.fresh().due("stones 0 0 0 = BAD");
    }

    private void promise26() {
        s.section("Promise 26");
        s.says("YEARS by a SEED (1 to 999999): SILENT (what = 0), what all owe (1).");
        // X becomes 1774597664 of 999999, and 16807 of 1.
        s.valley("v0;c0,0;c0,0;o0,1,7;").due("drawn 1 1 0 = 7", "drawn 1 999999 0 = 4",
            "drawn 1 1 1 = 7", "drawn 60 999999 1 = 7", "drawn 0 999999 0 = 0", "drawn 0 1 1 = 7");
        s.says("BAD;");
        Told x = s.valley(TWO).each("drawn # 1 0 = BAD", Told.MIN, -1, 61, Told.MAX);
        x.each("drawn 1 # 0 = BAD", Told.MIN, -1, 0, 1000000, Told.MAX).each("drawn 1 1 # = BAD", Told.MIN, -1, 2, Told.MAX);
        x.due("drawn 0 1 1 = 0", "drawn 0 0 0 = BAD");
        s.says("STATE: no VALLEY (ahead of BAD).");
        s.fresh().due("drawn 0 1 0 = STATE", "drawn 61 1 0 = STATE", "drawn 1 0 0 = STATE", "drawn 1 1 2 = STATE",
            "drawn -1 MIN MAX = STATE");
    }

    private void promise27() {
        s.section("Promise 27");
        s.says("An IMAGE (0, 1) is kept of the VALLEY: 1.");
        Told x = s.valley("v3;p1,4;w2,3;o0,1,9;").due("days 2 = 9", "mend 0 7 = 1", "image 0 = 1", "count 6 = 3", "mend 0 8 = 7");
        x.due("image 1 = 1", "mend 0 9 = 8", "restore 0 = 1", "bell 0 0 = 7", "restore 1 = 1", "bell 0 0 = 8");
        // In place of the one that was kept; and what is undone behind it stays in it.
        x.due("mend 0 50 = 8", "image 0 = 1", "undo = 0", "bell 0 0 = 8", "restore 0 = 1", "bell 0 0 = 50", "restore 1 = 1",
            "bell 0 0 = 8");
        s.says("BAD;");
        x.each("image # = BAD", Told.MIN, -1, 2, Told.MAX);
        s.fresh().each("image # = BAD", Told.MIN, -1, 2, Told.MAX);
        s.says("STATE: no VALLEY.");
        s.fresh().each("image # = STATE", 0, 1).each("restore # = STATE", 0, 1);
    }

    private void promise28() {
        s.section("Promise 28");
        s.says("The VALLEY is as an IMAGE kept it (no ACT can be undone then): 1.");
        // DAY 0: bell 0 borrows 4 of the field's for 20, bell 1 2 for 12 (it was owed 50), 2 are paid with.
        Told x = s.valley("v3;p1,4;w2,3;f9,0;o0,1,9;o2,1,50;").due("days 1 = 59", "image 1 = 1", "mend 0 0 = 1", "lend 1 0 9 = 36");
        x.after("days 2", "forgive 2 1", "mend 2 0").reads(TWO, 2).due("mend 1 5 = 0", "restore 1 = 1");
        x.due("count 1 = 3", "count 2 = 1", "count 3 = 3", "count 4 = 59", "count 5 = 0", "count 6 = 0", "undo = STATE");
        x.due("bell 0 0 = 1", "bell 0 1 = 4", "bell 2 0 = 9", "kind 0 = 1", "kind 1 = 5", "kind 2 = 3");
        x.due("owes 0 1 = 9", "owes 0 2 = 20", "owes 2 1 = 30", "owes 1 0 = 0", "mend 0 5 = 1", "restore 1 = 1", "bell 0 0 = 1");
        s.valley("v0;c0,2;c0,0;").due("days 3 = 0", "image 0 = 1", "days 1 = 0").reads(TWO, 2).due("count 5 = 0", "restore 0 = 1",
            "bell 0 2 = 6", "count 5 = 6");
        s.says("BAD;");
        x.each("restore # = BAD", Told.MIN, -1, 2, Told.MAX);
        s.fresh().each("restore # = BAD", Told.MIN, -1, 2, Told.MAX);
        s.says("STATE: none was kept.");
        x.due("restore 0 = STATE");
        s.fresh().each("restore # = STATE", 0, 1).reads(TWO, 2).each("restore # = STATE", 0, 1).due("image 1 = 1", "restore 0 = STATE",
            "restore 1 = 1");
    }
}
