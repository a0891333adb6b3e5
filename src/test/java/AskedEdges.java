/** KINDS, ASKS, THE TRACE, counts: the last sentences of part 3 of the Terms, part 4, and promises 1, 29 to 34. */
final class AskedEdges {
    private static final String TWO = "v0;p0,0;p0,0;";
    /** One of each SORT; NETS of -9, 9, 0, 0, 0. */
    private static final String EACH = "v15;p3,1;d4,2;f5,3;c6,4;w7,5;o0,1,9;";

    private final Sentences s;

    private AskedEdges(Sentences s) {
        this.s = s;
    }

    static void run(Sentences s) {
        AskedEdges edges = new AskedEdges(s);
        s.section("Terms 3");
        edges.kinds();
        s.section("Terms 4");
        edges.trace();
        edges.sizes();
        edges.marks();
        edges.nearest();
        s.plain("Ahead of the calls `row`", "the interface says: ---- asked.");
        edges.promise1();
        edges.promises29And30();
        edges.promises31And32();
        edges.promise33();
        edges.promise34();
    }

    private void kinds() {
        s.says("KINDS of BELLS: 0 BELL; 1 PARISH, a BELL; 2 DEAF, a PARISH; 3 FIELD, a PARISH; 4 CATHEDRAL, a BELL; "
            + "5 WEDDING, a CATHEDRAL.");
        String[] is = {"110000", "111000", "110100", "100010", "100011"};
        Told x = s.valley(EACH);
        for (int b = 0; b < 5; b++) {
            x.due("kind " + b + " = " + (b + 1));
            for (int kind = 0; kind <= 5; kind++) {
                x.due("as " + b + " " + kind + " = " + (is[b].charAt(kind) == '1' ? String.valueOf(b) : "KIND"));
            }
        }
        x.each("as 0 # = BAD", -1, 6);
        s.says("By this it is asked.");
        x.due("ask 0 0 = -6", "ask 1 0 = -24", "ask 2 0 = -993", "ask 3 0 = -94", "ask 4 0 = -186");
    }

    private void traced(Told x, String ask, int... bodies) {
        x.due(ask);
        for (int i = 0; i < bodies.length; i++) {
            x.due("trace " + i + " = " + bodies[i]);
        }
        x.due("trace " + bodies.length + " = NONE", "trace 15 = NONE", "trace 16 = NONE");
    }

    private void trace() {
        s.says("ASKS of BELLS, by BODIES, each of which leaves its number in THE TRACE as it begins (the first 16):");
        // As it begins: ahead of the BODIES that it asks for. None of these asks leaves more than six.
        traced(s.valley(EACH), "ask 1 0 = -24", 12, 11, 10, 24, 21, 20);
    }

    private void sizes() {
        Told x = s.valley(EACH);
        s.says("0 SIZE: 10 lent to all BELLS: what it HAS.");
        // With frost on each DAY, too; told by one that has no NET, and is not 0.
        traced(x, "ask 3 0 = -94", 13, 10);
        x.due("mend 3 99 = 6", "ask 3 0 = -1", "mend 3 0 = 99", "ask 3 0 = -100");
        s.says("11 of PARISHES: what 10 gives, and MARK.");
        traced(x, "ask 0 0 = -6", 11, 10, 21, 20);
        x.due("forgive 0 1 = 9", "ask 0 0 = 3", "undo = 2", "ask 0 0 = -6");
        s.says("12 of DEAF ones: 0 less what 11 gives.");
        traced(x, "ask 1 0 = -24", 12, 11, 10, 24, 21, 20);
        s.says("13 of CATHEDRALS: what 10 gives, less 100.");
        traced(x, "ask 3 0 = -100", 13, 10);
        s.says("14 of WEDDING ones: twice what 13 gives (asked once).");
        traced(x, "ask 4 0 = -186", 14, 13, 10);
        x.due("mend 4 99 = 7", "ask 4 0 = -2");
    }

    private void marks() {
        Told x = s.valley(EACH);
        s.says("1 MARK: 20 lent to all BELLS: the number.");
        s.valley(TWO).due("ask 0 1 = 0", "ask 1 1 = 1", "trace 1 = 20");
        s.says("21 of PARISHES: what 20 gives, and its NET.");
        traced(x, "ask 0 1 = -9", 21, 20);
        s.valley("v0;p0,0;p0,0;o0,1,99;").due("ask 0 1 = -99", "ask 1 1 = 100");
        s.says("22 of FIELD ones: what 21 gives, less 1000.");
        traced(x, "ask 2 1 = -998", 22, 21, 20);
        s.says("23 of CATHEDRALS: what 20 gives, less SIZE.");
        traced(x, "ask 3 1 = 97", 23, 20, 13, 10);
        s.says("24 of DEAF ones: twice what 21 gives (asked once).");
        traced(x, "ask 1 1 = 20", 24, 21, 20);
    }

    private void nearest() {
        s.says("(Of an ask the BODY told for the KIND begins, else that of the nearest KIND that it is, too, else the one that "
            + "is lent; SIZE, MARK within others are asked of the same BELL anew.)");
        Told x = s.valley(EACH);
        // A field's has no SIZE of its own, one for weddings no MARK: those of a parish's, a cathedral's.
        traced(x, "ask 2 0 = -993", 11, 10, 22, 21, 20);
        traced(x, "ask 4 1 = 190", 23, 20, 14, 13, 10);
        traced(x, "ask 3 1 = 97", 23, 20, 13, 10);
    }

    private void promise1() {
        s.section("Promise 1");
        s.says("No VALLEY.");
        s.fresh().each("count # = 0", 0, 1, 2, 3, 4, 5, 6, 7).due("status = 0", "fault = 0", "trace 0 = NONE", "undo = STATE",
            "days 1 = STATE", "even = STATE", "first 0 = STATE", "payments 0 = STATE", "circle 0 = STATE", "drawn 0 1 0 = STATE",
            "image 0 = STATE", "restore 0 = STATE", "restore 1 = STATE", "bell 0 0 = BAD", "owes 0 1 = BAD", "lend 0 1 1 = BAD",
            "pay 0 1 1 = BAD", "forgive 0 1 = BAD", "mend 0 0 = BAD", "ahead 0 1 0 = BAD", "later 0 0 0 = BAD", "more 0 1 = BAD",
            "fits 0 1 0 0 1 0 = BAD", "stones 0 0 0 = BAD", "kind 0 = BAD", "as 0 0 = BAD", "ask 0 0 = BAD", "valley = -1000100",
            "drop 0 = NULL");
        // What one object holds is not another's.
        Told one = s.valley(EACH).after("row 0 0 3", "image 0");
        s.fresh().due("count 1 = 0", "count 0 = 0", "restore 0 = STATE");
        one.due("count 1 = 5", "count 0 = 1");
    }

    private void promises29And30() {
        s.section("Promise 29");
        s.says("The KIND of a BELL, as told (1 to 5).");
        s.valley("v0;w0,0;c0,0;f0,0;d0,0;p0,0;p0,0;").due("kind 0 = 5", "kind 1 = 4", "kind 2 = 3", "kind 3 = 2", "kind 4 = 1",
            "kind 5 = 1", "as 0 4 = 0", "as 0 0 = 0", "kind 0 = 5");
        s.says("BAD.");
        Told x = s.valley(TWO).each("kind # = BAD", Told.MIN, -1, 2, 5, 6, Told.MAX);
        s.fresh().due("kind 0 = BAD");
        s.section("Promise 30");
        s.says("A BELL is taken as one of a KIND (0 .. 5): the BELL's number.");
        x.due("as 0 0 = 0", "as 1 0 = 1", "as 1 1 = 1");
        s.valley("v0;c0,0;w0,0;").due("as 1 5 = 1", "as 1 4 = 1", "as 1 0 = 1", "as 0 4 = 0");
        s.says("BAD;");
        x.each("as # 0 = BAD", Told.MIN, -1, 2, 6, Told.MAX).each("as 0 # = BAD", Told.MIN, -1, 6, Told.MAX);
        s.fresh().due("as 0 0 = BAD");
        s.says("KIND: it is no such one.");
        x.each("as 1 # = KIND", 2, 3, 4, 5);
        s.valley("v0;c0,0;w0,0;").each("as 0 # = KIND", 1, 2, 3, 5).each("as 1 # = KIND", 1, 2, 3);
        s.valley("v0;d0,0;f0,0;").each("as 0 # = KIND", 3, 4, 5).each("as 1 # = KIND", 2, 4, 5);
    }

    private void promises31And32() {
        s.section("Promise 31");
        s.says("An ASK (0, 1) of a BELL.");
        s.valley(EACH).due("ask 0 0 = -6", "ask 0 1 = -9", "ask 4 0 = -186", "ask 4 1 = 190");
        s.says("BAD (THE TRACE stays then).");
        Told x = s.valley(EACH).due("ask 3 0 = -94");
        x.each("ask # 0 = BAD", Told.MIN, -1, 5, 6, Told.MAX).each("ask 0 # = BAD", Told.MIN, -1, 2, Told.MAX);
        x.due("trace 0 = 13", "trace 1 = 10", "trace 2 = NONE");
        s.fresh().due("ask 0 0 = BAD", "trace 0 = NONE");
        s.says("THE TRACE is empty ahead of it.");
        x.due("ask 1 0 = -24", "trace 5 = 20", "ask 0 1 = -9", "trace 0 = 21", "trace 1 = 20", "trace 2 = NONE", "trace 5 = NONE");
        s.section("Promise 32");
        s.says("Number i of THE TRACE; NONE.");
        x.due("ask 3 0 = -94", "trace 0 = 13", "trace 1 = 10").each("trace # = NONE", Told.MIN, -1, 2, 15, 16, Told.MAX);
        // It stays as it is, whatever is called but an ask.
        x.due("days 1 = 5", "image 0 = 1", "restore 0 = 1", "trace 0 = 13").reads(TWO, 2).due("trace 0 = 13", "trace 1 = 10");
        s.valley(TWO).each("trace # = NONE", Told.MIN, -1, 0, 15, 16, Told.MAX);
    }

    private void promise33() {
        s.section("Promise 33");
        s.says("How many: 0 ROWS, 1 BELLS, 2 the DAY, 3 FROST, 4 what all owe, 5 how long all were SILENT, together, "
            + "6 ACTS that can be undone, 7 bytes on the tape.");
        Told x = s.valley("v9;c0,4;c1,3;p0,0;o0,1,99;o2,0,1;").feeds("v1").due("row 0 0 0 = 0", "row 7 2 40 = 40");
        x.due("count 0 = 2", "count 1 = 3", "count 2 = 0", "count 3 = 9", "count 4 = 100", "count 5 = 0", "count 6 = 0", "count 7 = 2");
        // DAYS 0 and 3 with frost: of bell 1 3, 2, 2, 3 are LACKED, of bell 0 always 4.
        x.due("days 4 = 100", "pay 0 1 9 = 90", "drop 7 = 40", "mend 0 0 = 0");
        x.due("count 0 = 1", "count 2 = 4", "count 3 = 9", "count 4 = 91", "count 5 = 26", "count 6 = 6", "count 7 = 2");
        s.says("BAD.");
        x.each("count # = BAD", Told.MIN, -1, 8, Told.MAX);
        s.fresh().each("count # = BAD", Told.MIN, -1, 8, Told.MAX);
    }

    private void promise34() {
        s.section("Promise 34");
        s.says("Of the latest call with a ROW, or as(), that was not BAD, STATE, FULL:");
        Told x = s.valley(TWO).due("row 0 0 -1 = SIZE", "status = 4");
        x.due("row 0 3 -1 = BAD", "set 8 0 0 = BAD", "copy 0 0 8 0 1 = BAD", "drop 8 = BAD", "as 0 6 = BAD", "fits 0 1 0 0 13 0 = BAD",
            "status = 4");
        x.due("undo = STATE", "restore 0 = STATE", "forgive 0 1 = STATE", "days 1 = 0", "feed 118 = 1", "mend 0 3 = 0", "ask 0 0 = 3",
            "kind 0 = 1", "count 0 = 0", "even = 0", "image 0 = 1", "status = 4");
        x.reads("1;", -1000103).reads(TWO, 2).feeds("v".repeat(160)).due("feed 118 = FULL", "status = 4");
        s.says("the number of its FINDING;");
        x.due("row 0 0 2 = 2", "row 1 1 2 = 2", "drop 2 = NULL", "status = 1", "set 0 2 0 = PLACE", "status = 2", "as 0 2 = KIND",
            "status = 3", "row 2 0 -1 = SIZE", "status = 4", "copy 0 0 1 0 1 = STORE", "status = 5");
        x.due("set 2 0 0 = NULL", "status = 1", "copy 0 0 0 0 3 = PLACE", "status = 2", "copy 2 0 0 0 1 = NULL", "status = 1",
            "fits 0 1 0 2 1 0 = PLACE", "status = 2", "fits 0 1 2 0 1 0 = NULL", "status = 1");
        s.says("0: it had none, or there was none.");
        s.fresh().due("status = 0", "row 8 0 0 = BAD", "status = 0", "row 0 0 0 = 0", "status = 0");
        String[] none = {"row 3 0 1 = 1", "set 0 1 7 = 7", "copy 0 0 0 1 1 = 1", "drop 3 = 1", "fits 0 1 0 0 1 0 = 62", "as 1 1 = 1"};
        for (String line : none) {
            x.due("row 2 0 -1 = SIZE", "status = 4", line, "status = 0");
        }
    }
}
