/** THE TAPE, VALLEYS that are read, FAULTS: the texts of part 1 of the Terms, and promises 6 to 8. */
final class TapeEdges {
    private static final String TWO = "v0;p0,0;p0,0;";
    private static final String SIX = "v0;p0,0;p0,0;p0,0;p0,0;p0,0;p0,0;";

    private final Sentences s;

    private TapeEdges(Sentences s) {
        this.s = s;
    }

    static void run(Sentences s) {
        TapeEdges edges = new TapeEdges(s);
        s.section("Terms 1");
        edges.tape();
        edges.tokens();
        edges.grammar();
        edges.law();
        edges.bells();
        edges.debts();
        edges.inPlace();
        edges.faults();
        edges.feed();
        edges.valley();
        edges.fault();
    }

    /** SIX with a debt of each two, and so many noughts ahead that it has a number of bytes (138 to 160). */
    private static String wholeOf(int bytes) {
        StringBuilder text = new StringBuilder(SIX);
        for (int one = 0; one < 6; one++) {
            for (int other = one + 1; other < 6; other++) {
                text.append('o').append(one).append(',').append(other).append(",7;");
            }
        }
        for (int at = text.length() - 1; text.length() < bytes; at--) {
            if (Character.isDigit(text.charAt(at))) {
                text.insert(at, '0');
            }
        }
        return text.toString();
    }

    private void tape() {
        s.says("TEXTS: THE TAPE has at most 160 bytes, that come one by one;");
        String whole = wholeOf(160);
        s.is("bytes", 160, whole.length());
        Told x = s.fresh();
        for (int k = 0; k < 160; k++) {
            x.due("feed " + (int) whole.charAt(k) + " = " + (k + 1));
        }
        x.due("feed 59 = FULL", "count 7 = 160", "valley = 6", "count 7 = 0", "count 4 = 105", "feed 118 = 1");
    }

    private void tokens() {
        s.says("TOKENS: letters a to z (each by itself), NUMBERS (figures, 2 at most), SIGNS , and ; nothing else, no blanks.");
        // The bytes next to those that may stand, blanks, capitals, other signs, and those beyond 127.
        int[] none = {0, 9, 10, 13, 32, '+', '-', '.', '/', ':', '<', '=', '@', 'A', 'V', 'Z', '[', '_', '`', '{', 127, 128, 233, 255};
        for (int letter : none) {
            char c = (char) letter;
            s.fresh().faulty(c + TWO, 0, 1).faulty("v" + c + "0;p0,0;p0,0;", 1, 1).faulty("v0;p0" + c + ",0;p0,0;", 5, 1)
                .faulty("v0;p0," + c + "0;p0,0;", 6, 1).faulty(TWO + c, 13, 1);
        }
        s.fresh().faulty("v 1;", 1, 1).faulty("v1 ;", 2, 1).faulty("v1; p0,0;", 3, 1).faulty("v0;p0,0;p0,0; ", 13, 1);
        s.fresh().faulty("vv", 1, 1).faulty("v0;pp", 4, 1).faulty(TWO + "oo", 14, 1);
        s.fresh().faulty("v000;", 1, 1).faulty("v0;p009,0;", 4, 1).faulty("v0;p0,0000;", 6, 1);
        s.fresh().reads("v00;p00,00;p09,09;", 2).reads("v07;p1,2;p3,04;o00,01,07;", 2).due("count 3 = 7", "owes 0 1 = 7");
    }

    private void grammar() {
        s.says("valley: law bell bell { bell } { debt }.");
        s.fresh().faulty("", 0, 1).faulty("p0,0;p0,0;", 0, 1).faulty("v0;", 3, 1).faulty("v0;p0,0;", 8, 1).reads(TWO, 2);
        String text = TWO;
        for (int n = 3; n <= 6; n++) {
            text += "p0,0;";
            s.fresh().reads(text, n).reads(text + "o0,1,1;", n);
        }
        s.fresh().faulty("v0;o0,1,1;", 3, 1).faulty("v0;p0,0;o0,1,1;", 8, 1).reads(TWO + "o0,1,1;", 2);
        s.fresh().faulty(TWO + "o0,1,1;p0,0;", 20, 1).faulty(TWO + "v0;", 13, 1).faulty("v0;v0;p0,0;p0,0;", 3, 1);
        s.fresh().faulty(TWO + ";", 13, 1).faulty(TWO + "o0,1,1;;", 20, 1).faulty(TWO + "0", 13, 1);
    }

    private void law() {
        s.says("law: v FROST ; (0 to 15: bits of DAYS by 4 left over on which there is frost).");
        s.fresh().reads("v0;p0,0;p0,0;", 2).due("count 3 = 0").reads("v15;p0,0;p0,0;", 2).due("count 3 = 15");
        s.fresh().faulty("v16;p0,0;p0,0;", 1, 2).faulty("v99;p0,0;p0,0;", 1, 2).faulty("v100;p0,0;p0,0;", 1, 1);
        s.fresh().faulty("v;", 1, 1).faulty("v,", 1, 1).faulty("v1,", 2, 1).faulty("v1p", 2, 1).faulty("0;", 0, 1);
        // Each bit by itself, on the DAYS of two rounds.
        for (int bit = 0; bit < 4; bit++) {
            Told x = s.valley("v" + (1 << bit) + ";p5,0;p0,0;");
            for (int day = 0; day < 8; day++) {
                x.due("bell 0 4 = " + (day % 4 == bit ? 4 : 5), "days 1 = 0");
            }
        }
    }

    private void bells() {
        s.says("bell: SORT HAS , NEEDS ; (SORT: p a parish's, d a deaf one's, f a field's, c a cathedral's, "
            + "w one for weddings; 0 to 9; 0 to 9; BELLS 0 .. 5, 6 at most, in a ring).");
        Told x = s.valley("v0;p0,9;d9,0;f0,0;c9,9;w1,8;p8,1;");
        int[][] told = {{1, 0, 9}, {2, 9, 0}, {3, 0, 0}, {4, 9, 9}, {5, 1, 8}, {1, 8, 1}};
        for (int b = 0; b < 6; b++) {
            x.due("kind " + b + " = " + told[b][0], "bell " + b + " 0 = " + told[b][1], "bell " + b + " 1 = " + told[b][2]);
        }
        x.due("kind 6 = BAD", "kind -1 = BAD", "count 1 = 6");
        for (char letter = 'a'; letter <= 'z'; letter++) {
            String text = "v0;p0,0;" + letter + "0,0;";
            if ("pdfcw".indexOf(letter) >= 0) {
                s.fresh().reads(text, 2);
            } else {
                s.fresh().faulty(text, 8, 1);
            }
        }
        s.fresh().faulty("v0;p10,0;", 4, 2).faulty("v0;p99,0;", 4, 2).faulty("v0;p0,10;", 6, 2).faulty("v0;p0,99;", 6, 2);
        s.fresh().faulty("v0;p;", 4, 1).faulty("v0;p,0;", 4, 1).faulty("v0;p0;", 5, 1).faulty("v0;p0,;", 6, 1)
            .faulty("v0;p0,0,", 7, 1).faulty("v0;p0,0p", 7, 1).faulty("v0;0,0;", 3, 1);
        s.fresh().reads(SIX, 6).faulty(SIX + "p0,0;", 33, 3);
        // In a ring: behind 5 comes 0.
        s.valley("v0;p9,0;p9,0;p0,0;p0,0;p0,0;p0,1;").due("days 1 = 5", "owes 5 0 = 5");
    }

    private void debts() {
        s.says("debt: o ONE , OTHER , QUARTERS ; (two BELLS that are not the same, one of which owes nothing to the other "
            + "yet either way; 1 to 99: ONE owes OTHER as much).");
        s.valley(TWO + "o0,1,1;").due("owes 0 1 = 1", "owes 1 0 = 0", "count 4 = 1");
        s.valley(TWO + "o1,0,99;").due("owes 1 0 = 99", "owes 0 1 = 0", "count 4 = 99");
        s.fresh().faulty(TWO + "o0,1,0;", 18, 2).faulty(TWO + "o0,1,00;", 18, 2).faulty(TWO + "o0,1,100;", 18, 1);
        s.fresh().faulty(TWO + "o0,0,1;", 16, 2).faulty(TWO + "o1,1,1;", 16, 2).faulty(TWO + "o1,01,1;", 16, 2);
        s.fresh().faulty(TWO + "o0,1,1;o0,1,1;", 23, 2).faulty(TWO + "o0,1,1;o1,0,1;", 23, 2);
        s.fresh().faulty(TWO + "o2,0,1;", 14, 2).faulty(TWO + "o0,2,1;", 16, 2).faulty(TWO + "o99,0,1;", 14, 2);
        s.fresh().reads(SIX + "o5,4,1;o4,3,1;o5,3,1;", 6).faulty(SIX + "o6,5,1;", 34, 2).faulty(SIX + "o5,6,1;", 36, 2);
        s.fresh().faulty(TWO + "o,", 14, 1).faulty(TWO + "o0;", 15, 1).faulty(TWO + "o0,,", 16, 1)
            .faulty(TWO + "o0,1;", 17, 1).faulty(TWO + "o0,1,;", 18, 1).faulty(TWO + "o0,1,1,", 19, 1);
        // A debt of each two: of six BELLS fifteen.
        s.valley(wholeOf(138)).due("count 4 = 105", "owes 4 5 = 7", "bell 0 3 = -35", "bell 5 3 = 35");
    }

    private void inPlace() {
        s.says("A VALLEY that is read stands in place of the one before (none at first): DAY 0, nobody was SILENT; "
            + "no ACT can be undone; IMAGES and ROWS stay.");
        Told x = s.fresh().due("count 1 = 0", "image 0 = STATE").reads("v0;c0,5;c0,4;p0,0;o0,1,9;o1,2,8;o2,0,7;", 3);
        x.due("row 6 1 3 = 3", "set 6 0 7 = 7", "image 0 = 1", "days 2 = 24", "mend 1 50 = 0", "image 1 = 1");
        x.due("count 2 = 2", "count 5 = 18", "count 6 = 3").reads("v3;p1,1;p1,1;", 2);
        x.due("count 1 = 2", "count 2 = 0", "count 3 = 3", "count 4 = 0", "count 5 = 0", "count 6 = 0", "undo = STATE");
        x.due("bell 0 2 = 0", "bell 1 2 = 0", "bell 1 0 = 1", "bell 2 0 = BAD", "owes 0 1 = 0", "count 0 = 1");
        x.due("restore 1 = 1", "count 2 = 2", "bell 1 0 = 50", "count 5 = 18", "restore 0 = 1", "count 2 = 0", "owes 2 0 = 7");
        x.due("fits 2 0 6 0 1 0 = 62", "drop 6 = 3");
        // Of fewer BELLS, then of more: nothing is left of the one before.
        x.reads(TWO, 2).reads("v0;p0,0;p0,0;p0,0;", 3).due("count 4 = 0", "bell 2 3 = 0", "owes 2 0 = 0", "bell 2 2 = 0");
    }

    private void faults() {
        s.says("FAULTS, the first TOKEN that has one (its first byte), of one TOKEN the least:");
        s.fresh().faulty("v16;x", 1, 2).faulty("vx16;", 1, 1).faulty("v16x", 1, 2).faulty("v0;p10,10;", 4, 2);
        s.fresh().faulty("v0;p0,10;p10,0;", 6, 2).faulty(TWO + "o2,2,0;", 14, 2).faulty(TWO + "o0,0,0;", 16, 2);
        s.fresh().faulty(SIX + "p10,10;", 33, 3).faulty(SIX + "pp", 33, 3).faulty(SIX + "o0,1,1;p0,0;", 40, 1);
        s.fresh().faulty("v160;", 1, 1).faulty("v0;p100,0;", 4, 1).faulty(TWO + "o0,000,1;", 16, 1);
        s.says("1 it cannot stand there, or is none (a run of three figures or more, at its first; "
            + "the end: how many bytes there are);");
        s.fresh().faulty("", 0, 1).faulty("v", 1, 1).faulty("v1", 2, 1).faulty("v15", 3, 1).faulty("v0;p0,0;p", 9, 1);
        s.fresh().faulty("v0123456789;", 1, 1).faulty("v123", 1, 1).faulty(TWO + "o0,1,123;", 18, 1);
        s.fresh().faulty(TWO + "123", 13, 1).faulty("v" + "0".repeat(159), 1, 1).faulty("999", 0, 1);
        String whole = wholeOf(160);
        s.fresh().faulty(whole.substring(0, 159), 159, 1);
        s.fresh().faulty(whole.substring(0, 159) + ",", 159, 1);
        // 160 bytes, and the end is not reached by them.
        s.fresh().faulty(wholeOf(159) + "o", 160, 1);
        s.says("2 a NUMBER that is not as told (of a debt that may not be: at its OTHER);");
        s.fresh().faulty("v16", 1, 2).faulty("v0;p10", 4, 2).faulty("v0;p0,10", 6, 2).faulty(TWO + "o2", 14, 2);
        s.fresh().faulty(TWO + "o0,0", 16, 2).faulty(TWO + "o0,2", 16, 2).faulty(TWO + "o0,1,0", 18, 2);
        s.fresh().faulty(TWO + "o0,1,5;o1,0,5;", 23, 2).faulty(TWO + "o0,1,5;o0,1", 23, 2).faulty(TWO + "o0,1,5;o01,00x", 24, 2);
        s.says("3 a bell more than there is room for (its letter).");
        for (char letter : "pdfcw".toCharArray()) {
            s.fresh().faulty(SIX + letter, 33, 3);
        }
        s.fresh().faulty(SIX + "x", 33, 1).faulty(SIX + "P", 33, 1).faulty(SIX + "v", 33, 1);
    }

    private void feed() {
        s.section("Promise 6");
        s.says("A byte (0 to 255) comes behind the tape: how many it has.");
        s.fresh().due("feed 0 = 1", "feed 255 = 2", "count 7 = 2", "valley = -1000100", "feed 1 = 1");
        s.says("BAD;");
        s.fresh().each("feed # = BAD", Told.MIN, -1, 256, 374, Told.MAX).due("count 7 = 0");
        s.says("FULL.");
        s.fresh().feeds("v".repeat(159)).due("feed 118 = 160", "feed 118 = FULL", "feed 0 = FULL", "count 7 = 160",
            "valley = -1000101", "feed 118 = 1");
    }

    private void valley() {
        s.section("Promise 7");
        s.says("The tape, empty then, is read: how many BELLS there are.");
        s.fresh().reads(TWO, 2).due("count 7 = 0", "valley = -1000100", "count 1 = 2").reads(SIX, 6).due("count 7 = 0");
        s.says("-1000100 less the place of a FAULT: all stays, but the tape is empty then, and fault() tells this one.");
        Told x = s.valley("v9;p1,4;w0,3;o0,1,9;");
        x.due("row 0 2 2 = 2", "set 0 1 9 = 9", "days 1 = 9", "image 0 = 1", "mend 0 30 = 1", "ask 1 0 = -200");
        x.due("set 0 2 1 = PLACE");
        // Behind a text whose FAULT comes early, late, and at its end.
        String[] texts = {"", "x", "v5;p9,9;w9,9;d9,9;o1,0,50;o0", "v5;p9,9;p9,9;p9,9;p9,9;p9,9;p9,9;p9,9;"};
        int[][] faults = {{0, 1}, {0, 1}, {28, 1}, {33, 3}};
        for (int k = 0; k < texts.length; k++) {
            x.faulty(texts[k], faults[k][0], faults[k][1]);
            x.due("count 0 = 1", "count 1 = 2", "count 2 = 1", "count 3 = 9", "count 4 = 9", "count 5 = 7", "count 6 = 2");
            x.due("count 7 = 0", "bell 0 0 = 30", "bell 0 1 = 4", "kind 1 = 5", "owes 0 1 = 9", "owes 1 0 = 0");
            x.due("trace 0 = 14", "trace 2 = 10", "status = 2");
        }
        x.due("fits 0 1 0 1 1 0 = 0", "undo = 1", "bell 0 0 = 1", "undo = 0", "count 2 = 0", "count 5 = 0");
        x.due("restore 0 = 1", "count 2 = 1");
        s.fresh().faulty("v0;p0,0;", 8, 1).due("count 1 = 0", "days 1 = STATE", "bell 0 0 = BAD");
    }

    private void fault() {
        s.section("Promise 8");
        s.says("The number of the latest FAULT;");
        s.fresh().faulty("v16;", 1, 2).faulty(SIX + "p", 33, 3).faulty("v", 1, 1).reads(TWO, 2).due("fault = 1", "days 0 = BAD",
            "set 0 0 0 = NULL", "fault = 1");
        s.says("0 before one.");
        s.fresh().due("fault = 0").reads(TWO, 2).due("fault = 0", "feed 256 = BAD", "drop 0 = NULL", "fault = 0");
    }
}
