/** Ahead of part 1 of the Terms: numbers, fractions, the order of the refusals and of the FINDINGS. */
final class TermsEdges {
    private static final String TWO = "v0;p0,0;p0,0;";

    private final Sentences s;

    private TermsEdges(Sentences s) {
        this.s = s;
    }

    static void run(Sentences s) {
        TermsEdges edges = new TermsEdges(s);
        s.section("What it is");
        s.plain("Strokes that are owed:", "all undone, images.");
        edges.calls();
        s.section("Terms 0");
        edges.numbers();
        edges.fractions();
        edges.sets();
        edges.order();
        edges.bad();
        edges.stateAndFull();
        edges.orderOfFindings();
        edges.findings();
        edges.nothingChanges();
    }

    private void calls() {
        s.says("An object is used for at most 512 calls after it has been made; what later calls answer is free.");
        Told x = s.valley(TWO);
        int before = 0;
        while (x.calls() < 511) {
            int v = (before + 37) % 100;
            x.due("mend 1 " + v + " = " + before);
            before = v;
        }
        x.due("bell 1 0 = " + before);
        s.is("calls", 512, x.calls());
    }

    private void numbers() {
        s.says("Numbers go from 0 on.");
        s.valley("v0;d1,2;p3,4;").due("bell 0 0 = 1", "bell 0 1 = 2", "bell -1 0 = BAD", "bell 0 -1 = BAD",
            "kind 0 = 2", "kind -1 = BAD", "as 0 0 = 0", "as 0 -1 = BAD", "row 0 0 1 = 1", "row -1 0 1 = BAD",
            "row 0 -1 1 = BAD", "set 0 0 5 = 5", "set 0 -1 5 = PLACE", "image 0 = 1", "image -1 = BAD",
            "ask 0 0 = -1", "ask 0 -1 = BAD", "trace 0 = 12", "trace -1 = NONE", "count 0 = 1", "count -1 = BAD",
            "later 1 0 0 = 0", "later 1 -1 0 = BAD", "later 1 0 -1 = BAD");
    }

    private void fractions() {
        s.says("All that is divided is cut towards 0, but fractions, told as two numbers in lowest terms (0 is 0 by 1).");
        Told x = s.valley("v0;c1,1;c0,0;c0,0;c0,0;c0,0;c0,0;");
        int[][] lowest = {{0, 1}, {1, 10}, {1, 5}, {3, 10}, {2, 5}, {1, 2}, {3, 5}, {7, 10}, {4, 5}, {9, 10}, {1, 1}};
        for (int c = 0; c <= 10; c++) {
            x.due("stones 0 " + c + " 0 = " + lowest[c][0], "stones 0 " + c + " 1 = " + lowest[c][1]);
        }
        x.due("stones 5 3 0 = 0", "stones 5 3 1 = 1");
    }

    private void sets() {
        s.says("Sets are bits.");
        Told x = s.valley(TWO).after("row 0 2 1");
        x.due("fits 0 1 0 0 1 0 = 62", "fits 0 1 0 0 1 1 = 1023", "fits 0 1 0 0 1 2 = 1023", "fits 0 1 0 0 1 3 = 65535");
        x.due("set 0 0 1 = 1").each("fits 0 1 0 0 1 # = 0", 0, 1, 2, 3);
    }

    private void order() {
        s.says("Refusals are answers, the first of these that fits, but as told:");
        // BAD ahead of STATE, unless told otherwise.
        s.fresh().due("image 2 = BAD", "image 1 = STATE", "restore 2 = BAD", "restore 1 = STATE");
        s.valley(TWO).due("pay 0 1 0 = BAD", "pay 0 1 1 = STATE", "forgive 0 2 = BAD", "forgive 0 1 = STATE");
        s.fresh().due("days 0 = STATE", "first 2 = STATE", "payments 2 = STATE", "circle 2 = STATE", "drawn 61 0 2 = STATE");
        // BAD ahead of FULL.
        s.fresh().feeds("v".repeat(160)).due("feed 256 = BAD", "feed 255 = FULL");
        s.valley(TWO).times(41, "days 24 = 0").due("days 15 = 0", "days 25 = BAD", "days 0 = BAD", "days 24 = FULL");
        // BAD ahead of the FINDINGS.
        Told x = s.valley(TWO).after("row 0 0 2");
        x.due("row 8 0 -1 = BAD", "row 0 3 -1 = BAD", "row 0 0 -1 = SIZE");
        x.due("set 8 -1 0 = BAD", "copy 7 0 8 0 1 = BAD", "copy 8 0 7 0 1 = BAD", "copy 0 9 8 0 1 = BAD");
        x.due("fits 0 0 7 0 1 0 = BAD", "fits 0 1 7 0 0 0 = BAD", "fits 0 1 7 0 1 4 = BAD", "fits 0 1 0 9 13 0 = BAD");
        x.due("as 0 6 = BAD", "as 2 4 = BAD", "as 0 4 = KIND");
    }

    private void bad() {
        s.says("BAD (a number is not as told; there is no such thing),");
        Told x = s.valley(TWO).after("row 0 0 2");
        int[] odd = {Told.MIN, Told.MIN + 1, -1, Told.MAX - 1, Told.MAX};
        for (String line : new String[] {"row # 0 1", "row 0 # 1", "set # 0 1", "copy # 0 0 0 1", "copy 0 0 # 0 1",
            "drop #", "feed #", "days #", "lend # 1 1", "lend 0 # 1", "lend 0 1 #", "pay # 1 1", "pay 0 # 1",
            "pay 0 1 #", "forgive # 1", "forgive 0 #", "mend # 1", "mend 0 #", "bell # 0", "bell 0 #", "owes # 1",
            "owes 0 #", "ahead # 1 1", "ahead 0 # 1", "ahead 0 1 #", "later # 1 0", "later 0 # 0", "later 0 1 #",
            "first #", "payments #", "circle #", "more # 1", "more 0 #", "fits # 1 0 0 1 0", "fits 0 # 0 0 1 0",
            "fits 0 1 # 0 1 0", "fits 0 1 0 0 # 0", "fits 0 1 0 0 1 #", "stones # 1 0", "stones 0 # 0",
            "stones 0 1 #", "drawn # 1 0", "drawn 1 # 0", "drawn 1 1 #", "image #", "restore #", "kind #", "as # 0",
            "as 0 #", "ask # 0", "ask 0 #", "count #"}) {
            x.each(line + " = BAD", odd);
        }
        x.due("row 0 0 MAX = BAD", "bell 2 0 = BAD", "count 8 = BAD");
    }

    private void stateAndFull() {
        s.says("STATE (as told), FULL (as told),");
        s.fresh().due("undo = STATE", "even = STATE", "restore 0 = STATE").feeds(";".repeat(160)).due("feed 0 = FULL");
        s.valley(TWO).due("undo = STATE", "even = 0", "restore 0 = STATE", "feed 0 = 1");
    }

    private void orderOfFindings() {
        s.says("then FINDINGS, of several the first in time: -1000010 less");
        Told x = s.valley(TWO).after("row 0 0 2", "row 1 1 2");
        x.due("set 7 -1 0 = NULL", "set 0 -1 0 = PLACE", "copy 7 -1 0 -1 -1 = NULL", "copy 0 -1 7 -1 -1 = NULL");
        x.due("copy 7 -1 7 -1 -1 = NULL", "copy 0 -1 1 -1 -1 = STORE", "copy 0 -1 0 -1 -1 = PLACE");
        x.due("fits 0 1 7 -1 1 0 = NULL", "fits 0 1 0 -1 1 0 = PLACE");
    }

    private void findings() {
        Told x = s.valley(TWO).after("row 0 0 2", "row 1 1 2");
        s.says("1 NULL (a ROW that is missing),");
        x.due("drop 7 = -1000011", "status = 1");
        s.says("2 PLACE (no such place of a ROW),");
        x.due("set 0 2 0 = -1000012", "status = 2");
        s.says("3 KIND (a BELL that is not that),");
        x.due("as 0 5 = -1000013", "status = 3");
        s.says("4 SIZE (fewer than none),");
        x.due("row 5 0 -1 = -1000014", "status = 4", "row 5 0 MIN = -1000014", "row 5 0 0 = 0", "status = 0");
        s.says("5 STORE (ROWS of two LANES).");
        x.due("copy 0 0 1 0 0 = -1000015", "status = 5");
    }

    private void nothingChanges() {
        s.says("What is refused, or found, changes nothing but status().");
        for (String call : new String[] {"row -1 0 1", "row 8 0 1", "row 0 -1 1", "row 0 3 1", "row 0 0 41", "set -1 0 1",
            "set 8 0 1", "copy -1 0 1 0 1", "copy 0 0 8 0 1", "drop -1", "drop 8", "feed -1", "feed 256", "days 0",
            "days 25", "lend 0 0 1", "lend 3 0 1", "lend 0 3 1", "lend 0 1 0", "lend 0 1 10", "pay 0 1 0",
            "pay 0 1 1000", "pay 3 1 1", "pay 0 3 1", "forgive 0 3", "forgive 3 0", "mend 3 1", "mend 0 100",
            "mend 0 -1", "bell 3 0", "bell 0 6", "owes 0 0", "owes 0 3", "ahead 0 1 61", "ahead 0 1 -1",
            "ahead 3 1 1", "later 0 61 0", "later 0 0 2", "first 2", "payments 2", "circle 2", "more 3 1",
            "more 0 31", "more 0 0", "fits 0 0 0 0 1 0", "fits 0 1 8 0 1 0", "fits 0 1 0 0 13 0", "fits 0 1 0 0 0 0",
            "fits 0 1 0 0 1 4", "stones 3 0 0", "stones 0 11 0", "stones 0 0 2", "drawn 61 1 0", "drawn 1 0 0",
            "drawn 1 1000000 0", "drawn 1 1 2", "image 2", "restore 2", "kind 3", "as 3 0", "as 0 6", "ask 3 0",
            "ask 0 2", "count 8"}) {
            Twins.unchanged(s, Twins.Ahead.RICH, call + " = BAD", false);
        }
        for (String line : new String[] {"row 0 0 -1 = SIZE", "set 2 0 1 = NULL", "set 0 3 1 = PLACE",
            "copy 0 0 2 0 1 = NULL", "copy 2 0 0 0 1 = NULL", "copy 0 0 1 0 1 = STORE", "copy 0 0 0 2 2 = PLACE",
            "drop 2 = NULL", "fits 0 1 2 0 1 0 = NULL", "fits 0 1 0 2 2 0 = PLACE", "as 0 4 = KIND"}) {
            Twins.unchanged(s, Twins.Ahead.RICH, line, true);
        }
        for (String call : new String[] {"pay 1 0 1", "forgive 2 0", "restore 1"}) {
            Twins.unchanged(s, Twins.Ahead.RICH, call + " = STATE", false);
        }
        for (String call : new String[] {"days 1", "undo", "even", "first 0", "payments 0", "circle 0", "drawn 0 1 0",
            "image 0", "restore 0"}) {
            Twins.unchanged(s, Twins.Ahead.NEW, call + " = STATE", false);
        }
        Twins.unchanged(s, Twins.Ahead.LATE, "feed 118 = FULL", false);
        Twins.unchanged(s, Twins.Ahead.LATE, "days 1 = FULL", false);
        Twins.unchanged(s, Twins.Ahead.LATE, "days 24 = FULL", false);
    }
}
