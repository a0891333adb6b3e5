/** DAYS and other ACTS: part 2 of the Terms, and promises 9 to 16. */
final class ActsEdges {
    private static final String TWO = "v0;p0,0;p0,0;";

    private final Sentences s;

    private ActsEdges(Sentences s) {
        this.s = s;
    }

    static void run(Sentences s) {
        ActsEdges edges = new ActsEdges(s);
        s.section("Terms 2");
        edges.owedOneWay();
        edges.hasAndWants();
        edges.lending();
        edges.prices();
        edges.silent();
        edges.payingBack();
        edges.acts();
        edges.days();
        edges.lend();
        edges.pay();
        edges.forgive();
        edges.mend();
        edges.undo();
        edges.bell();
        edges.owes();
    }

    /** As far as the last DAY, 999. */
    private static Told last(Told x) {
        for (int k = 0; k < 41; k++) {
            x.after("days 24");
        }
        return x.after("days 15");
    }

    private void owedOneWay() {
        s.says("Debts are in QUARTERS; of two BELLS one owes the other at most: "
            + "what one comes to owe is first taken from what the other owes it.");
        s.valley(TWO + "o1,0,6;").due("lend 0 1 1 = 0", "owes 0 1 = 0", "owes 1 0 = 1");
        s.valley(TWO + "o1,0,5;").due("lend 0 1 1 = 0", "owes 0 1 = 0", "owes 1 0 = 0", "count 4 = 0");
        s.valley(TWO + "o1,0,4;").due("lend 0 1 1 = 1", "owes 0 1 = 1", "owes 1 0 = 0");
        // The same by a DAY: one stroke for 5 QUARTERS; nothing is SPARE then.
        s.valley("v0;p0,1;p1,0;o1,0,6;").due("days 1 = 1", "owes 1 0 = 1", "owes 0 1 = 0");
        s.valley("v0;p0,1;p1,0;o1,0,5;").due("days 1 = 0");
        s.valley("v0;p0,1;p1,0;o1,0,4;").due("days 1 = 1", "owes 1 0 = 0", "owes 0 1 = 1");
        // By no other BELL's debt.
        s.valley("v0;p0,0;p0,0;p0,0;o2,0,9;o1,2,9;").due("lend 0 1 1 = 5", "owes 2 0 = 9", "owes 1 2 = 9");
    }

    private void hasAndWants() {
        s.says("A DAY. Each BELL HAS its strokes, with frost 1 less (0 at least);");
        s.valley("v1;p0,2;p1,2;p2,2;").due("bell 0 5 = 2", "bell 1 5 = 2", "bell 2 5 = 1", "days 1 = 0", "count 5 = 5");
        s.valley("v1;p0,0;p1,0;p2,0;").due("bell 0 4 = 0", "bell 0 5 = 0", "bell 1 4 = 0", "bell 2 4 = 1", "bell 0 0 = 0");
        s.valley("v1;p1,1;p1,0;").due("days 1 = 0", "bell 0 2 = 1", "days 1 = 0", "bell 0 2 = 1", "bell 0 0 = 1");
        s.says("it WANTS what it NEEDS; one for weddings 1 more on DAYS that are odd (DAY as it begins, for frost, too).");
        Told x = s.valley("v0;w2,1;c0,0;").due("bell 0 4 = 1", "days 1 = 0", "bell 0 4 = 0", "bell 0 5 = 0", "bell 0 1 = 1");
        x.due("days 1 = 0", "bell 0 2 = 0", "bell 0 4 = 1");
        s.valley("v0;w0,0;c0,0;").due("days 1 = 0", "bell 0 2 = 0", "bell 0 5 = 1", "days 1 = 0", "bell 0 2 = 1",
            "days 1 = 0", "bell 0 2 = 1", "days 1 = 0", "bell 0 2 = 2");
        s.valley("v0;c0,0;p0,0;f0,0;d0,0;").due("days 4 = 0", "count 5 = 0");
        // Frost of DAY 0 on the first DAY, of DAY 1 on the second.
        s.valley("v1;p1,1;c0,0;").due("days 1 = 0", "bell 0 2 = 1", "days 3 = 0", "bell 0 2 = 1", "days 1 = 0", "bell 0 2 = 2");
        s.valley("v2;p1,1;c0,0;").due("days 1 = 0", "bell 0 2 = 0", "days 1 = 0", "bell 0 2 = 1");
        s.says("What it HAS above that is SPARE, what it WANTS above that it LACKS.");
        s.valley("v0;p3,3;p4,3;p3,4;").due("bell 0 4 = 0", "bell 0 5 = 0", "bell 1 4 = 1", "bell 1 5 = 0", "bell 2 4 = 0",
            "bell 2 5 = 1");
        s.valley("v0;p0,9;p9,0;").due("bell 0 4 = 0", "bell 0 5 = 9", "bell 1 4 = 9", "bell 1 5 = 0", "mend 1 99 = 9",
            "bell 1 4 = 99");
    }

    private void lending() {
        s.says("Then BELL by BELL that LACKS any, as long as it does: of the others in the ring, from the one of the next "
            + "number on (behind the last one 0), each LENDS as many strokes as the one LACKS, or it has SPARE: "
            + "they are SPARE no more, LACKED no more, and owed:");
        // BELL by BELL: the least number has them all.
        s.valley("v0;p0,2;p0,2;p3,0;").due("days 1 = 15", "owes 0 2 = 10", "owes 1 2 = 5", "bell 0 2 = 0", "bell 1 2 = 1");
        // As long as it does: the third is not asked any more; one that LACKS nothing borrows nothing.
        s.valley("v0;p0,2;p2,0;p9,0;").due("days 1 = 10", "owes 0 1 = 10", "owes 0 2 = 0");
        s.valley("v0;p1,1;f9,0;").due("days 1 = 0");
        // In the ring: behind the last one 0, and none from itself.
        s.valley("v0;p5,0;p5,0;p0,1;").due("days 1 = 5", "owes 2 0 = 5", "owes 2 1 = 0");
        s.valley("v0;p5,0;p0,1;p5,0;").due("days 1 = 5", "owes 1 2 = 5", "owes 1 0 = 0");
        s.valley("v0;p9,0;p0,0;p0,0;p0,0;p0,1;p0,0;").due("days 1 = 5", "owes 4 0 = 5");
        s.valley("v0;p0,0;p0,0;p0,0;p0,0;p9,0;p0,1;").due("days 1 = 5", "owes 5 4 = 5");
        // As many as it LACKS, or are SPARE: one less, as many, one more.
        s.valley("v0;p0,3;p2,0;c0,0;").due("days 1 = 10", "bell 0 2 = 1");
        s.valley("v0;p0,3;p3,0;c0,0;").due("days 1 = 15", "bell 0 2 = 0");
        s.valley("v0;p0,3;p4,0;c0,0;").due("days 1 = 15", "bell 0 2 = 0");
        // SPARE no more: neither for another one nor to pay with.
        s.valley("v0;p0,1;p0,1;p1,0;o2,0,9;").due("days 1 = 4", "owes 2 0 = 4", "bell 1 2 = 1");
        s.valley("v0;p0,1;p1,0;p0,0;o1,2,4;").due("days 1 = 9", "owes 1 2 = 4", "owes 0 1 = 5");
        // Who has none SPARE, but as many as it WANTS, LENDS none.
        s.valley("v0;p0,1;p5,5;").due("days 1 = 0", "bell 0 2 = 1");
    }

    private void prices() {
        s.says("to a parish 5 QUARTERS each; to a deaf one nothing; to a field's one 4 each, and 4 more (if any).");
        int[][] owed = {{5, 0, 8}, {10, 0, 12}, {45, 0, 40}};
        int[] strokes = {1, 2, 9};
        for (int k = 0; k < strokes.length; k++) {
            for (int kind = 0; kind < 3; kind++) {
                s.valley("v0;c0," + strokes[k] + ";" + "pdf".charAt(kind) + "9,0;").due("days 1 = " + owed[k][kind],
                    "owes 0 1 = " + owed[k][kind], "bell 0 2 = 0");
            }
        }
        s.valley("v0;c0,1;f0,0;").due("days 1 = 0", "bell 0 2 = 1");
        s.valley("v0;c0,1;f3,3;p1,0;").due("days 1 = 5", "owes 0 1 = 0");
        // 4 more for each BELL, on each DAY.
        s.valley("v0;c0,1;c0,1;f2,0;").due("days 1 = 16", "owes 0 2 = 8", "owes 1 2 = 8", "days 1 = 32");
        s.valley("v0;c0,3;f1,0;f2,0;").due("days 1 = 20", "owes 0 1 = 8", "owes 0 2 = 12");
        s.says("A cathedral's, one for weddings LENDS none.");
        s.valley("v0;p0,1;c9,0;w9,0;").due("days 1 = 0", "bell 0 2 = 1", "days 1 = 0", "bell 0 2 = 2");
        s.valley("v0;p0,1;c9,0;w9,0;p1,0;").due("days 1 = 5", "owes 0 3 = 5", "bell 0 2 = 0");
    }

    private void silent() {
        s.says("What is LACKED still it is SILENT for (each BELL for 9999 at most, in all DAYS together).");
        s.valley("v0;p0,3;p2,0;").due("days 1 = 10", "bell 0 2 = 1", "bell 1 2 = 0", "days 2 = 30", "bell 0 2 = 3");
        s.valley("v0;c0,0;c0,1;").due("days 1 = 0", "bell 0 2 = 0", "bell 1 2 = 1");
        // 500 even DAYS of 9, 499 odd ones of 10; then 10, 9, 10, ..
        Told x = last(s.valley("v0;w0,9;w0,9;"));
        x.due("count 2 = 999", "bell 0 2 = 9490", "bell 1 2 = 9490", "count 5 = 18980");
        x.due("later 0 1 0 = 9500", "later 0 53 0 = 9994", "later 0 54 0 = 9999", "later 0 55 0 = 9999", "later 0 60 0 = 9999");
        x.due("later 1 53 0 = 9994", "later 1 60 0 = 9999", "bell 0 2 = 9490");
    }

    private void payingBack() {
        s.says("At last BELL by BELL that has SPARE strokes left pays with these, to each that it owes, by numbers: "
            + "4 QUARTERS each, the last one, too, if less is owed.");
        int[] owed = {1, 3, 4, 5, 7, 8, 9};
        int[] behindOne = {0, 0, 0, 1, 3, 4, 5};
        int[] behindTwo = {0, 0, 0, 0, 0, 0, 1};
        for (int k = 0; k < owed.length; k++) {
            s.valley("v0;p1,0;p0,0;o0,1," + owed[k] + ";").due("days 1 = " + behindOne[k], "owes 1 0 = 0");
            s.valley("v0;c2,0;c0,0;o0,1," + owed[k] + ";").due("days 1 = " + behindTwo[k], "owes 1 0 = 0");
        }
        s.valley("v0;p1,1;p0,0;o0,1,9;").due("days 1 = 9");
        // By numbers, and a stroke for less than 4 is spent.
        s.valley("v0;p0,0;p0,0;p2,0;o2,1,1;o2,0,1;").due("days 1 = 0");
        s.valley("v0;p0,0;p0,0;p1,0;o2,1,1;o2,0,1;").due("days 1 = 1", "owes 2 0 = 0", "owes 2 1 = 1");
        s.valley("v0;p2,0;p0,0;p0,0;o0,1,5;o0,2,5;").due("days 1 = 5", "owes 0 1 = 0", "owes 0 2 = 5");
        s.valley("v0;p3,0;p0,0;p0,0;o0,1,5;o0,2,5;").due("days 1 = 1", "owes 0 2 = 1");
        // BELL by BELL: all that have any left, of each KIND.
        s.valley("v0;p1,0;d1,0;f1,0;c1,0;w1,0;p0,0;o0,5,9;o1,5,9;o2,5,9;o3,5,9;o4,5,9;").due("days 1 = 25",
            "owes 0 5 = 5", "owes 1 5 = 5", "owes 2 5 = 5", "owes 3 5 = 5", "owes 4 5 = 5");
        // No other one's debt, also of six.
        s.valley("v0;p9,0;p0,0;p0,0;p0,0;p0,0;p9,0;o1,0,9;").due("days 1 = 9", "owes 1 0 = 9");
        // At last: what lending has left of a debt.
        s.valley("v0;p0,1;p2,0;p0,0;o1,0,9;").due("days 1 = 0");
        s.says("DAY is 1 more.");
        s.valley(TWO).due("count 2 = 0", "days 1 = 0", "count 2 = 1", "days 24 = 0", "count 2 = 25");
    }

    private void acts() {
        s.says("ACTS (24 at most are kept, of more the oldest is forgotten; each can be undone, the latest first; "
            + "also such by which nothing becomes another):");
        Told x = s.valley(TWO).due("count 6 = 0", "undo = STATE");
        for (int v = 1; v <= 24; v++) {
            x.due("mend 0 " + v + " = " + (v - 1), "count 6 = " + v);
        }
        x.due("mend 0 25 = 24", "count 6 = 24", "mend 0 26 = 25", "count 6 = 24");
        for (int left = 23; left >= 0; left--) {
            x.due("undo = " + left, "bell 0 0 = " + (left + 2));
        }
        x.due("undo = STATE", "bell 0 0 = 2");
        s.valley("v0;d0,0;p0,0;").due("mend 0 0 = 0", "lend 1 0 9 = 0", "days 1 = 0", "count 6 = 3", "undo = 2", "undo = 1",
            "undo = 0", "undo = STATE");
        s.says("a DAY;");
        s.valley("v0;p0,2;p1,0;").due("days 2 = 10", "count 6 = 2", "undo = 1", "count 2 = 1", "count 4 = 5", "count 5 = 1",
            "undo = 0", "count 2 = 0", "count 4 = 0", "count 5 = 0");
        s.says("strokes lent by hand (owed as in a DAY, whatever is SPARE; by one that LENDS none 4 QUARTERS each);");
        Told y = s.valley("v0;p0,0;d0,9;f0,0;c0,0;w0,9;p0,0;");
        y.due("lend 0 5 1 = 5", "lend 0 1 1 = 0", "lend 0 2 1 = 8", "lend 0 3 1 = 4", "lend 0 4 1 = 4", "count 4 = 21");
        y.due("lend 5 0 9 = 40", "lend 5 1 9 = 0", "lend 5 2 9 = 40", "lend 5 3 9 = 36", "lend 5 4 9 = 36", "count 5 = 0");
        y.due("lend 0 2 1 = 16", "count 6 = 11", "undo = 10", "owes 0 2 = 8");
        s.says("QUARTERS paid, or forgiven;");
        s.valley(TWO + "o0,1,9;").due("pay 0 1 2 = 7", "forgive 0 1 = 7", "count 6 = 2", "undo = 1", "owes 0 1 = 7", "undo = 0",
            "owes 0 1 = 9");
        s.says("what a BELL HAS is another.");
        s.valley(TWO).due("mend 1 3 = 0", "mend 1 3 = 3", "count 6 = 2", "undo = 1", "bell 1 0 = 3", "undo = 0", "bell 1 0 = 0");
    }

    private void days() {
        s.section("Promise 9");
        s.says("n DAYS (1 to 24), an ACT each: what all owe then.");
        s.valley("v0;p0,1;p1,0;").due("days 1 = 5", "count 6 = 1", "count 2 = 1", "days 3 = 20", "count 6 = 4", "count 2 = 4");
        s.valley("v0;p0,1;p1,0;").due("days 24 = 120", "count 6 = 24", "days 24 = 240", "count 6 = 24", "undo = 23",
            "count 2 = 47", "count 4 = 235");
        s.valley(TWO).due("days 24 = 0", "count 6 = 24", "undo = 23", "count 2 = 23");
        s.says("BAD;");
        s.valley(TWO).each("days # = BAD", Told.MIN, -1, 0, 25, Told.MAX).due("count 2 = 0", "count 6 = 0");
        s.says("STATE: no VALLEY (ahead of BAD);");
        s.fresh().each("days # = STATE", Told.MIN, 0, 1, 24, 25, Told.MAX);
        s.says("FULL: beyond DAY 999.");
        Told x = s.valley("v0;p0,1;p1,0;");
        for (int k = 1; k <= 41; k++) {
            x.due("days 24 = " + 120 * k);
        }
        x.due("count 2 = 984", "days 16 = FULL", "days 24 = FULL", "days 25 = BAD", "count 2 = 984", "days 14 = 4990");
        x.due("days 2 = FULL", "days 1 = 4995", "count 2 = 999", "days 1 = FULL", "count 2 = 999", "count 4 = 4995");
        x.due("undo = 23", "days 2 = FULL", "days 1 = 4995", "days 1 = FULL");
    }

    private void lend() {
        s.section("Promise 10");
        s.says("n strokes (1 to 9) lent by hand to one BELL by another: what the one owes the other then (0: nothing).");
        s.valley(TWO).due("lend 0 1 1 = 5", "lend 0 1 9 = 50", "lend 1 0 9 = 0", "owes 0 1 = 5", "lend 1 0 1 = 0",
            "owes 0 1 = 0", "lend 1 0 1 = 5", "owes 1 0 = 5");
        s.says("BAD (alike, too).");
        Told x = s.valley(TWO);
        x.each("lend # 1 1 = BAD", Told.MIN, -1, 1, 2, Told.MAX).each("lend 0 # 1 = BAD", Told.MIN, -1, 0, 2, Told.MAX);
        x.each("lend 0 1 # = BAD", Told.MIN, -1, 0, 10, Told.MAX).due("lend 1 1 1 = BAD", "count 6 = 0", "count 4 = 0");
        s.fresh().due("lend 0 1 1 = BAD", "lend 0 0 1 = BAD");
    }

    private void pay() {
        s.section("Promise 11");
        s.says("n QUARTERS (1 to 999; of more than are owed as many as are) paid by one BELL to another: what it owes then.");
        s.valley(TWO + "o0,1,9;").due("pay 0 1 1 = 8", "pay 0 1 7 = 1", "pay 0 1 1 = 0", "owes 1 0 = 0");
        s.valley(TWO + "o0,1,9;").due("pay 0 1 9 = 0", "undo = 0", "pay 0 1 10 = 0", "owes 1 0 = 0", "undo = 0",
            "pay 0 1 999 = 0", "owes 1 0 = 0", "count 4 = 0");
        Told many = s.valley(TWO);
        for (int k = 1; k <= 23; k++) {
            many.due("lend 0 1 9 = " + 45 * k);
        }
        many.due("pay 0 1 999 = 36", "pay 0 1 37 = 0");
        s.says("BAD: n, too;");
        Told x = s.valley(TWO + "o0,1,9;");
        x.each("pay 0 1 # = BAD", Told.MIN, -1, 0, 1000, Told.MAX).each("pay # 1 1 = BAD", Told.MIN, -1, 1, 2, Told.MAX);
        x.each("pay 0 # 1 = BAD", Told.MIN, -1, 0, 2, Told.MAX).due("pay 1 0 0 = BAD", "pay 1 0 1000 = BAD", "owes 0 1 = 9",
            "count 6 = 0");
        s.fresh().due("pay 0 1 1 = BAD");
        s.says("STATE: it owes nothing.");
        x.due("pay 1 0 1 = STATE", "pay 1 0 999 = STATE", "count 6 = 0", "pay 0 1 9 = 0", "pay 0 1 1 = STATE", "count 6 = 1");
    }

    private void forgive() {
        s.section("Promise 12");
        s.says("All that it owes another is forgiven: how much it was.");
        s.valley("v0;p0,0;p0,0;p0,0;o0,1,1;o0,2,99;o1,2,5;").due("forgive 0 2 = 99", "owes 0 2 = 0", "owes 0 1 = 1",
            "owes 1 2 = 5", "owes 2 0 = 0", "forgive 0 1 = 1", "count 4 = 5", "count 6 = 2");
        s.says("BAD;");
        Told x = s.valley(TWO + "o0,1,9;");
        x.each("forgive # 1 = BAD", Told.MIN, -1, 1, 2, Told.MAX).each("forgive 0 # = BAD", Told.MIN, -1, 0, 2, Told.MAX);
        x.due("count 6 = 0", "owes 0 1 = 9");
        s.fresh().due("forgive 0 1 = BAD");
        s.says("STATE: nothing.");
        x.due("forgive 1 0 = STATE", "count 6 = 0", "forgive 0 1 = 9", "forgive 0 1 = STATE", "count 6 = 1");
    }

    private void mend() {
        s.section("Promise 13");
        s.says("What a BELL HAS is v (0 to 99): what it was.");
        s.valley("v15;p9,0;p1,0;").due("mend 0 0 = 9", "bell 0 0 = 0", "mend 0 99 = 0", "bell 0 0 = 99", "bell 0 4 = 98",
            "mend 0 50 = 99", "bell 1 0 = 1");
        s.says("BAD.");
        Told x = s.valley(TWO).each("mend 0 # = BAD", Told.MIN, -1, 100, Told.MAX);
        x.each("mend # 5 = BAD", Told.MIN, -1, 2, 6, Told.MAX).due("count 6 = 0", "bell 0 0 = 0", "bell 1 0 = 0");
        s.fresh().due("mend 0 0 = BAD");
    }

    private void undo() {
        s.section("Promise 14");
        s.says("The latest ACT is undone: how many can be undone yet.");
        Told x = s.valley("v0;p0,2;p9,1;").due("days 1 = 10", "mend 0 5 = 0", "lend 0 1 1 = 15", "pay 0 1 4 = 11",
            "forgive 0 1 = 11", "count 6 = 5");
        x.due("undo = 4", "owes 0 1 = 11", "undo = 3", "owes 0 1 = 15", "undo = 2", "owes 0 1 = 10", "undo = 1", "bell 0 0 = 0");
        x.due("mend 1 7 = 9", "undo = 1", "bell 1 0 = 9", "undo = 0", "owes 0 1 = 0", "count 2 = 0");
        s.says("STATE: none.");
        x.due("undo = STATE", "count 2 = 0").reads(TWO, 2).due("mend 0 1 = 0", "image 0 = 1", "restore 0 = 1", "undo = STATE");
        x.due("mend 0 2 = 1").reads(TWO, 2).due("undo = STATE", "bell 0 0 = 0");
        s.fresh().due("undo = STATE", "count 6 = 0");
        x = s.valley(TWO).times(24, "mend 1 0 = 0").due("days 24 = 0", "undo = 23");
        for (int left = 22; left >= 0; left--) {
            x.due("undo = " + left);
        }
        x.due("undo = STATE", "count 2 = 0");
    }

    private void bell() {
        s.section("Promise 15");
        s.says("Of a BELL: 0 what it HAS, 1 NEEDS, 2 how long it was SILENT, 3 its NET, 4 strokes it would have SPARE, "
            + "5 that it would LACK, this DAY, ahead of all lending.");
        Told x = s.valley("v2;w2,1;p0,3;c9,0;o0,1,9;o2,0,4;");
        x.due("bell 0 0 = 2", "bell 0 1 = 1", "bell 0 2 = 0", "bell 0 3 = -5", "bell 0 4 = 1", "bell 0 5 = 0");
        x.due("bell 1 0 = 0", "bell 1 1 = 3", "bell 1 2 = 0", "bell 1 3 = 9", "bell 1 4 = 0", "bell 1 5 = 3");
        // DAY 0: bell 0 and bell 2 pay a stroke each; on DAY 1 there are frost and a wedding.
        x.due("days 1 = 5", "bell 0 0 = 2", "bell 0 1 = 1", "bell 0 3 = -5", "bell 0 4 = 0", "bell 0 5 = 1");
        x.due("bell 1 2 = 3", "bell 1 3 = 5", "bell 1 5 = 3", "bell 2 0 = 9", "bell 2 3 = 0", "bell 2 4 = 8");
        x.due("days 1 = 5", "bell 0 2 = 1", "bell 1 2 = 6");
        // Ahead of all lending, though another one would borrow it all.
        s.valley("v0;p0,5;p5,0;").due("bell 1 4 = 5", "bell 0 5 = 5");
        s.says("BAD.");
        x.each("bell # 0 = BAD", Told.MIN, -1, 3, 6, Told.MAX).each("bell 0 # = BAD", Told.MIN, -1, 6, Told.MAX);
        s.fresh().each("bell # 0 = BAD", 0, 1, 5);
    }

    private void owes() {
        s.section("Promise 16");
        s.says("What one owes another (0: nothing).");
        s.valley("v0;p0,0;p0,0;p0,0;o0,1,1;o2,0,99;").due("owes 0 1 = 1", "owes 1 0 = 0", "owes 2 0 = 99", "owes 0 2 = 0",
            "owes 1 2 = 0", "owes 2 1 = 0");
        s.says("BAD (alike, too).");
        Told x = s.valley(TWO).each("owes # 1 = BAD", Told.MIN, -1, 1, 2, 6, Told.MAX);
        x.each("owes 0 # = BAD", Told.MIN, -1, 0, 2, 6, Told.MAX);
        s.fresh().due("owes 0 1 = BAD", "owes 0 0 = BAD");
    }
}
