/** Promises 1 to 6 at their edges: a new object, type, clear, grid, cell, near. */
public final class GridEdgesTest {
    private static final Edges E = new Edges("GridEdgesTest");

    public static void main(String[] args) {
        aNewObject();
        type();
        clear();
        gridOfLittleAndMuch();
        gridOfNumbers();
        gridOfWrongTokens();
        gridOfCells();
        gridRefused();
        gridAnew();
        cell();
        nearWrapped();
        nearByKernels();
        E.end(1, 6);
    }

    // ---- promise 1

    private static void aNewObject() {
        newMeasures();
        newGround();
        newHasNoDots();
        newHasNothingElse();
        newOnesShareNothing();
    }

    private static void newMeasures() {
        E.of(1, "WIDTH, HEIGHT (1 .. 8 each; 4 and 4 at first)");
        DotThresholds x = new DotThresholds();
        E.due("WIDTH", x.count(0), 4);
        E.due("HEIGHT", x.count(1), 4);
        E.due("cell(3, 3), the last one", x.cell(3, 3), 0);
        E.due("cell(4, 0)", x.cell(4, 0), Due.BAD);
        E.due("cell(0, 4)", x.cell(0, 4), Due.BAD);
    }

    private static void newGround() {
        DotThresholds x = new DotThresholds();
        E.of(1, "AX, AY 1 .. 4 (1 at first)");
        E.due("AX", x.count(7), 1);
        E.due("AY", x.count(8), 1);
        E.due("near(0, 2, 0)", x.near(0, 2, 0), 4);
        E.due("near(0, 8, 0)", x.near(0, 8, 0), 4);
        E.of(1, "SHUT CELLS are let out (none at first)");
        E.due("FREE", x.count(2), 16);
        E.shows("all are FREE", x, "..../..../..../..../");
        E.of(1, "KERNEL 0, POWER 100, FALL 1 at first");
        E.due("KERNEL", x.count(4), 0);
        E.due("POWER", x.count(5), 100);
        E.due("FALL", x.count(6), 1);
        E.due("near(0, 0, 1)", x.near(0, 0, 1), 100);
        E.due("near(0, 10, 1)", x.near(0, 10, 1), 100 / 9);
    }

    private static void newHasNoDots() {
        E.of(1, "As told; no DOTS.");
        DotThresholds x = new DotThresholds();
        E.due("DOTS", x.count(3), 0);
        E.due("held(0, 0)", x.held(0, 0), 0);
        E.due("extreme(0)", x.extreme(0), Due.NONE);
        E.due("energy()", x.energy(), 0);
        E.due("rank(0, 0)", x.rank(0, 0), Due.STATE);
    }

    private static void newHasNothingElse() {
        E.of(1, "As told; no DOTS.");
        DotThresholds x = new DotThresholds();
        E.due("SEEN", x.count(9), 0);
        E.due("letters", x.count(10), 0);
        E.due("may be UNDONE", x.count(11), 0);
        E.due("back(0)", x.back(0), Due.STATE);
        E.due("back(1)", x.back(1), Due.STATE);
        E.due("undo()", x.undo(), Due.STATE);
        E.due("grid()", x.grid(), 0);
        E.alike("a grid of nothing is a new object", x, new DotThresholds());
    }

    private static void newOnesShareNothing() {
        E.of(1, "As told; no DOTS.");
        DotThresholds x = new DotThresholds();
        for (Starts.Start start : Starts.EACH) {
            start.made();
        }
        E.alike("behind the use of other objects", x, new DotThresholds());
    }

    // ---- promise 2

    private static void type() {
        E.of(2, "A letter (0 .. 255) comes to THE TEXT: how many it has.");
        DotThresholds x = new DotThresholds();
        E.due("type(0)", x.type(0), 1);
        E.due("type(255)", x.type(255), 2);
        E.badBeyond("type", 0, 255, DotThresholds::type, Starts.BUSY, Starts.NEW, Starts.NO_DOT);
        typeIsFull();
        typeIsBadAheadOfFull();
    }

    private static void typeIsFull() {
        E.of(2, "BAD; FULL: 150.");
        DotThresholds x = new DotThresholds();
        for (int n = 1; n <= 150; n++) {
            E.due("letter " + n, x.type(' '), n);
        }
        E.due("letter 151", x.type(' '), Due.FULL);
        E.due("letter 152", x.type(';'), Due.FULL);
        E.due("letters", x.count(10), 150);
        E.full("type(0)", y -> y.type(0), Starts.FULL);
        E.full("type(255)", y -> y.type(255), Starts.FULL);
        E.full("type of ;", y -> y.type(';'), Starts.FULL);
        x.clear();
        E.due("behind clear()", x.type('d'), 1);
    }

    private static void typeIsBadAheadOfFull() {
        E.of(2, "Refused, and nothing changes, the first of these: BAD (a number is not as told");
        E.badBeyond("type", 0, 255, DotThresholds::type, Starts.FULL);
    }

    // ---- promise 3

    private static void clear() {
        E.of(3, "THE TEXT is empty: how many letters it had.");
        E.leavesAll("clear() of an empty text", DotThresholds::clear, 0, Starts.NEW);
        E.due("clear() of one letter", typed("d").clear(), 1);
        E.due("clear() of 150", Starts.FULL.made().clear(), 150);
        DotThresholds x = Starts.FULL.made();
        x.clear();
        E.due("clear() once more", x.clear(), 0);
        E.due("grid() of the text that is empty", x.grid(), 0);
        clearLeavesAllElse();
    }

    private static void clearLeavesAllElse() {
        E.of(3, "THE TEXT is empty: how many letters it had.");
        DotThresholds x = Due.told("g3 2;s1 1;d0 0;");
        x.flips(2, 0);
        x.keep(0);
        x.paints(3, 0, 0);
        x.sees(0, 1);
        Due.types(x, "g8 8;x");
        E.due("clear()", x.clear(), 6);
        DotThresholds other = Due.told("g3 2;s1 1;d0 0;");
        other.flips(2, 0);
        other.keep(0);
        other.paints(3, 0, 0);
        other.sees(0, 1);
        E.alike("clear()", x, other);
    }

    private static DotThresholds typed(String text) {
        DotThresholds x = new DotThresholds();
        Due.types(x, text);
        return x;
    }

    // ---- promise 4

    private static void reads(String text, int items) {
        E.due("grid() of '" + text + "'", typed(text).grid(), items);
    }

    private static void fault(String text, int place) {
        reads(text, -10 - place);
    }

    private static void gridOfLittleAndMuch() {
        E.of(4, "THE TEXT tells all anew, and is empty then: how many ITEMS.");
        reads("", 0);
        reads(" ", 0);
        reads(" ".repeat(150), 0);
        reads("g8 8;" + dots(29), 30);
        DotThresholds x = typed("g8 8;" + dots(29));
        x.grid();
        E.due("letters behind it", x.count(10), 0);
        E.due("DOTS of 150 letters", x.count(3), 29);
        E.due("type() behind it", x.type('d'), 1);
        gridOfBlanks();
        gridWithFaultsAtBothEnds();
    }

    /** Five letters each; 8 by 8 CELLS. */
    private static String dots(int many) {
        StringBuilder all = new StringBuilder();
        for (int c = 0; c < many; c++) {
            all.append('d').append(c % 8).append(' ').append(c / 8).append(';');
        }
        return all.toString();
    }

    private static void gridOfBlanks() {
        E.of(4, "told letter by letter, blanks (32) between TOKENS");
        reads("d0 0;", 1);
        reads("  d  0  0  ;  ", 1);
        reads("d 0 0;s 1 1;", 2);
        // one NUMBER, as there is no blank
        fault("d00;", 1);
        fault("d12;", 1);
        int[] noBlanks = {0, 9, 10, 11, 12, 13, 31, 33, 127, 160, 255};
        for (int letter : noBlanks) {
            fault("d0" + (char) letter + "0;", 2);
            fault((char) letter + "d0 0;", 0);
            fault("d0 0;" + (char) letter, 5);
        }
    }

    private static void gridWithFaultsAtBothEnds() {
        E.of(4, "-10 less FAULT: nothing changes.");
        fault("x", 0);
        String most = "g8 8;" + dots(29);
        fault(most.substring(0, 149) + "x", 149);
        fault(most.substring(0, 149) + "d", 149);
        fault(most.substring(0, 149) + "7", 148);
        E.of(4, "the text's length, if it ends too early");
        fault(most.substring(0, 149), 149);
        fault(most.substring(0, 149) + " ", 150);
    }

    private static void gridOfNumbers() {
        E.of(4, "WIDTH, HEIGHT (1 .. 8 each");
        slot("g", " 4;", 1, 8, 0);
        slot("g4 ", ";", 1, 8, 1);
        E.of(4, "WEIGHT of a DISTANCE d, by the KERNEL: 0: POWER by 1 and d (cut); 1:");
        slot("k", " 5 5;", 0, 2, 4);
        E.of(4, "POWER 1 .. 999, FALL 1 .. 99");
        slot("k0 ", " 5;", 1, 999, 5);
        slot("k0 5 ", ";", 1, 99, 6);
        E.of(4, "AX, AY 1 .. 4");
        slot("a", " 4;", 1, 4, 7);
        slot("a4 ", ";", 1, 4, 8);
        numbersThatAreNone();
        toldLast();
    }

    /** A NUMBER from its least to its greatest is told, one beyond is a FAULT at its place. */
    private static void slot(String ahead, String behind, int least, int greatest, int what) {
        int[] fine = {least, (least + greatest) / 2, greatest};
        for (int n : fine) {
            DotThresholds x = typed(ahead + n + behind);
            E.due("grid() of '" + ahead + n + behind + "'", x.grid(), 1);
            E.due("count(" + what + ") of '" + ahead + n + behind + "'", x.count(what), n);
        }
        if (least > 0) {
            fault(ahead + (least - 1) + behind, ahead.length());
        }
        fault(ahead + (greatest + 1) + behind, ahead.length());
        fault(ahead + "-1" + behind, ahead.length());
        fault(ahead + "999999999999" + behind, ahead.length());
    }

    private static void numbersThatAreNone() {
        E.of(4, "a NUMBER above 999 or with a 0 ahead of others, that TOKEN's");
        reads("k0 999 1;", 1);
        fault("k0 1000 1;", 3);
        fault("k0 4294967297 1;", 3);
        fault("k0 18446744073709551617 1;", 3);
        fault("k0 " + "9".repeat(147), 3);
        fault("k0 " + "0".repeat(147), 3);
        reads("d0 0;", 1);
        fault("d00 0;", 1);
        fault("d01 0;", 1);
        fault("d0 01;", 3);
        fault("k0 0999 1;", 3);
        fault("k0 1 01;", 5);
        // 0 behind another letter of the NUMBER
        reads("k0 10 1;", 1);
        reads("k0 100 1;", 1);
        // also where no NUMBER may stand
        fault("1000", 0);
        fault("d0 0 1000;", 5);
        fault("d0 0;00", 5);
    }

    private static void toldLast() {
        E.of(4, "(k, a told again are as told last.)");
        DotThresholds x = typed("k1 60 9;a2 3;k2 999 99;a4 1;a1 4;");
        E.due("grid()", x.grid(), 5);
        int[] want = {2, 999, 99, 1, 4};
        for (int i = 0; i < want.length; i++) {
            E.due("count(" + (4 + i) + ")", x.count(4 + i), want[i]);
        }
        E.of(4, "g W H (the first of all, if it is told)");
        reads("g1 1;", 1);
        reads("d0 0;", 1);
        fault("g4 4;g4 4;", 5);
        fault(" k0 1 1; g4 4;", 9);
        fault("a1 1;g4 4;", 5);
        fault("s0 0;g4 4;", 5);
        fault("d0 0;g4 4;", 5);
    }

    private static final String[][] ITEMS = {{"g", "3", "2", ";"}, {"k", "1", "60", "9", ";"}, {"a", "1", "2", ";"},
        {"s", "1", "1", ";"}, {"d", "0", "0", ";"}};
    private static final String[] KINDS = {"g", "k", "a", "s", "d", "1", ";", "x", "1000", "01", "-", "G", "K", "D"};

    private static void gridOfWrongTokens() {
        for (String[] item : ITEMS) {
            everyWrongToken("", item);
            everyEnd("", item);
            if (!item[0].equals("g")) {
                everyWrongToken("g4 4; ", item);
                everyEnd("k0 1 1;", item);
            }
        }
        noTokenBetweenItems();
        theFirstFaultCounts();
    }

    private static boolean isNumber(String token) {
        return token.matches("0|[1-9][0-9]{0,2}");
    }

    /** Each TOKEN behind an ITEM's first one, put in place of by each kind that can't stand there. */
    private static void everyWrongToken(String ahead, String[] item) {
        E.of(4, "FAULT: the place of the first letter of the first TOKEN that can't stand there");
        StringBuilder text = new StringBuilder(ahead);
        text.append(item[0]).append(' ');
        for (int i = 1; i < item.length; i++) {
            for (String kind : KINDS) {
                boolean fits = isNumber(item[i]) ? isNumber(kind) : kind.equals(item[i]);
                if (!fits) {
                    fault(text + kind + " 0;", text.length());
                }
            }
            text.append(item[i]).append(' ');
        }
    }

    private static void everyEnd(String ahead, String[] item) {
        E.of(4, "the text's length, if it ends too early");
        StringBuilder text = new StringBuilder(ahead);
        for (int i = 0; i < item.length - 1; i++) {
            text.append(item[i]);
            fault(text.toString(), text.length());
            text.append(' ');
            fault(text.toString(), text.length());
            fault(text + "   ", text.length() + 3);
        }
        reads(text + ";", ahead.isEmpty() ? 1 : 2);
    }

    private static void noTokenBetweenItems() {
        E.of(4, "of any other letter");
        String[] wrong = {"1", ";", "x", "1000", "01", "-", "G", "K", "A", "S", "D", "h", "f", ":", "/", "" + (char) 0,
            "" + (char) 255};
        for (String token : wrong) {
            fault(token, 0);
            fault("  " + token, 2);
            fault("d0 0; " + token, 6);
        }
        fault("d0 0x;", 4);
        fault("d0x0;", 2);
    }

    private static void theFirstFaultCounts() {
        E.of(4, "the first TOKEN that can't stand there");
        fault("d0 9;x", 3);
        fault("g9 9;", 1);
        fault("k3 0 0;", 1);
        fault("k0 0 0;", 3);
        fault("a0 0;", 1);
        fault("d9 9;", 1);
        fault("d0 0;d0 0;d0 0;", 8);
        fault("x d0", 0);
        fault("d0 0;g9", 5);
    }

    private static void gridOfCells() {
        cellsOfAGrid(1, 1);
        cellsOfAGrid(8, 1);
        cellsOfAGrid(1, 8);
        cellsOfAGrid(8, 8);
        cellsOfAGrid(3, 2);
        E.of(4, "4 and 4 at first");
        reads("d3 3;", 1);
        fault("d4 3;", 1);
        fault("d3 4;", 3);
        cellsToldTwice();
    }

    private static void cellsOfAGrid(int w, int h) {
        E.of(4, "a NUMBER beyond what it may be");
        String grid = "g" + w + " " + h + ";";
        String[] kinds = {"s", "d"};
        for (String kind : kinds) {
            reads(grid + kind + "0 0;", 2);
            reads(grid + kind + (w - 1) + " " + (h - 1) + ";", 2);
            fault(grid + kind + w + " 0;", 6);
            fault(grid + kind + "0 " + h + ";", 8);
            fault(grid + kind + "999 0;", 6);
            fault(grid + kind + "0 999;", 8);
        }
    }

    private static void cellsToldTwice() {
        E.of(4, "s X Y (SHUT, once each)");
        fault("s1 2;s1 2;", 8);
        reads("s1 2;s2 1;", 2);
        E.of(4, "d X Y (a DOT, once each, not on a CELL that is SHUT; nor is one SHUT that has a DOT)");
        fault("d1 2;d1 2;", 8);
        fault("s1 2;d1 2;", 8);
        fault("d1 2;s1 2;", 8);
        reads("d1 2;d2 1;s1 1;s2 2;", 4);
        E.of(4, "Y of a CELL that may not be SHUT or have a DOT");
        fault("d3 3;k0 1 1; d  3   3 ;", 20);
        fault("g8 8;d7 7;s7 7", 13);
        fault("g1 1;d0 0;d0 0", 13);
        // what an earlier text told is told anew
        DotThresholds x = Due.told("d1 2;s2 1;");
        E.due("grid() of the same DOT", Due.reads(x, "d1 2;s2 1;"), 2);
        E.due("grid() of the same CELLS the other way", Due.reads(x, "s1 2;d2 1;"), 2);
    }

    private static void gridRefused() {
        E.of(4, "-10 less FAULT: nothing changes.");
        String[] texts = {"x", "g8 8;k2 8 8;a3 3;s0 0;d1 1;q", "g1 1;d0 0", "k0 1 1;g2 2;", "g5 5;d4 4;d4 4;",
            "s0 0;d1 1;d1000 1;"};
        int[] places = {0, 27, 9, 7, 13, 11};
        for (int i = 0; i < texts.length; i++) {
            String text = texts[i];
            for (Starts.Start start : Starts.EACH) {
                DotThresholds x = start.made();
                E.due("grid() of '" + text + "'", Due.reads(x, text), -10 - places[i]);
                DotThresholds other = start.made();
                other.clear();
                Due.types(other, text);
                E.alike("grid() of '" + text + "'", x, other);
            }
        }
        E.of(4, "THE TEXT tells all anew, and is empty then");
        DotThresholds x = typed("d1 1");
        E.due("grid() of 'd1 1'", x.grid(), -14);
        x.type(';');
        E.due("grid() of the text that was refused, and goes on", x.grid(), 1);
    }

    private static void gridAnew() {
        E.of(4, "(Read anew: all as told, else as at first; nothing SEEN, IMAGES are gone.)");
        String[] texts = {"", "g2 1;", "k2 9 9;", "a4 3;", "s0 0;", "d0 0;", "g3 2;s1 1;d0 0;"};
        for (String text : texts) {
            for (Starts.Start start : Starts.EACH) {
                DotThresholds x = start.made();
                int items = Due.reads(x, text);
                DotThresholds other = new DotThresholds();
                E.due("grid() of '" + text + "'", items, Due.reads(other, text));
                E.alike("grid() of '" + text + "'", x, other);
            }
        }
        DotThresholds x = Starts.FULL.made();
        x.grid();
        E.due("SEEN", x.count(9), 0);
        E.due("may be UNDONE", x.count(11), 0);
        E.due("back(0)", x.back(0), Due.STATE);
        E.due("back(1)", x.back(1), Due.STATE);
    }

    // ---- promise 5

    private static void cell() {
        E.of(5, "A CELL: 0 empty, 1 a DOT, 2 SHUT. BAD.");
        E.badBeyond("cell(n, 0)", 0, 2, (x, n) -> x.cell(n, 0), Starts.TOLD);
        E.badBeyond("cell(n, 1)", 0, 2, (x, n) -> x.cell(n, 1), Starts.TOLD);
        E.badBeyond("cell(0, n)", 0, 1, (x, n) -> x.cell(0, n), Starts.TOLD);
        E.badBeyond("cell(2, n)", 0, 1, (x, n) -> x.cell(2, n), Starts.TOLD);
        E.badBeyond("cell(n, n)", 0, 2, (x, n) -> x.cell(n, n), Starts.TOLD);
        E.bad("cell(4, 0)", x -> x.cell(4, 0), Starts.NEW);
        E.bad("cell(0, 4)", x -> x.cell(0, 4), Starts.NEW);
        E.leavesAll("cell(2, 1)", x -> x.cell(2, 1), 1, Starts.WITH_DOTS);
        E.leavesAll("cell(1, 1)", x -> x.cell(1, 1), 2, Starts.TOLD);
        E.leavesAll("cell(0, 0)", x -> x.cell(0, 0), 0, Starts.NO_DOT, Starts.NEW);
        cellNumbers();
        cellOfTheSmallestGrids();
    }

    private static void cellNumbers() {
        E.of(5, "CELLS x, y (from 0 on), numbered y times WIDTH and x.");
        DotThresholds x = Due.told("g3 2;d0 1;");
        E.due("its number", x.extreme(0), 3);
        E.due("cell(3, 0), not the next line's first", x.cell(3, 0), Due.BAD);
        x = Due.told("g3 2;d2 0;");
        E.due("its number", x.extreme(0), 2);
        E.due("cell(-1, 1), not the line's last ahead", x.cell(-1, 1), Due.BAD);
        x = Due.told("g8 8;d7 7;");
        E.due("the last one's number", x.extreme(0), 63);
        E.due("cell(7, 7)", x.cell(7, 7), 1);
        E.due("cell(8, 7)", x.cell(8, 7), Due.BAD);
        E.due("cell(7, 8)", x.cell(7, 8), Due.BAD);
    }

    private static void cellOfTheSmallestGrids() {
        E.of(5, "A CELL: 0 empty, 1 a DOT, 2 SHUT. BAD.");
        String[] texts = {"g1 1;", "g1 1;d0 0;", "g1 1;s0 0;"};
        for (int i = 0; i < texts.length; i++) {
            DotThresholds x = Due.told(texts[i]);
            E.due(texts[i] + " cell(0, 0)", x.cell(0, 0), i);
            E.due(texts[i] + " cell(1, 0)", x.cell(1, 0), Due.BAD);
            E.due(texts[i] + " cell(0, 1)", x.cell(0, 1), Due.BAD);
            E.due(texts[i] + " FREE", x.count(2), i == 2 ? 0 : 1);
        }
    }

    // ---- promise 6

    private static void nearWrapped() {
        E.of(6, "DISTANCE of two CELLS by their numbers (way = 0), WEIGHT of it (1). BAD.");
        E.badBeyond("near(n, 0, 0)", 0, 5, (x, n) -> x.near(n, 0, 0), Starts.TOLD);
        E.badBeyond("near(0, n, 0)", 0, 5, (x, n) -> x.near(0, n, 0), Starts.TOLD);
        E.badBeyond("near(n, 5, 1)", 0, 5, (x, n) -> x.near(n, 5, 1), Starts.TOLD);
        E.badBeyond("near(5, n, 1)", 0, 5, (x, n) -> x.near(5, n, 1), Starts.TOLD);
        E.badBeyond("near(0, 5, n)", 0, 1, (x, n) -> x.near(0, 5, n), Starts.TOLD);
        E.bad("near(16, 0, 0)", x -> x.near(16, 0, 0), Starts.NEW);
        E.bad("near(0, 16, 1)", x -> x.near(0, 16, 1), Starts.NEW);
        E.leavesAll("near(0, 5, 0)", x -> x.near(0, 5, 0), 3, Starts.TOLD);
        E.leavesAll("near(4, 4, 1), SHUT", x -> x.near(4, 4, 1), 60, Starts.TOLD);
        lastToFirst();
        shorterWayRound();
    }

    private static void lastToFirst() {
        E.of(6, "It is wrapped: from the last CELL of a line one comes to its first.");
        DotThresholds x = Due.told("g5 3;a1 4;");
        E.due("near(4, 0, 0)", x.near(4, 0, 0), 1);
        E.due("near(0, 4, 0)", x.near(0, 4, 0), 1);
        E.due("near(4, 5, 0), the next line's first", x.near(4, 5, 0), 1 + 4);
        E.due("near(0, 10, 0), a column's last", x.near(0, 10, 0), 4);
        E.due("near(14, 0, 0), the very last", x.near(14, 0, 0), 1 + 4);
    }

    private static void shorterWayRound() {
        E.of(6, "dx and dy being how far they lie from each other the shorter way round");
        int[][] squares = {{0}, {0, 1}, {0, 1, 1}, {0, 1, 4, 1}, {0, 1, 4, 4, 1}, {0, 1, 4, 9, 4, 1},
            {0, 1, 4, 9, 9, 4, 1}, {0, 1, 4, 9, 16, 9, 4, 1}};
        for (int size = 1; size <= 8; size++) {
            DotThresholds line = Due.told("g" + size + " 1;a3 4;");
            DotThresholds column = Due.told("g1 " + size + ";a3 4;");
            for (int c = 0; c < size; c++) {
                int square = squares[size - 1][c];
                E.due(size + " in a line, near(0, " + c + ", 0)", line.near(0, c, 0), 3 * square);
                E.due(size + " in a line, near(" + c + ", 0, 0)", line.near(c, 0, 0), 3 * square);
                E.due(size + " in a column, near(0, " + c + ", 0)", column.near(0, c, 0), 4 * square);
            }
            E.due(size + " in a line, near(0, " + size + ", 0)", line.near(0, size, 0), Due.BAD);
        }
        E.due("the farthest of all", Due.told("g8 8;a4 4;").near(0, 36, 0), 128);
    }

    private static void nearByKernels() {
        E.of(6, "0: POWER by 1 and d (cut)");
        E.due("d 0", Due.told("k0 999 99;").near(7, 7, 1), 999);
        E.due("POWER 1, d 0", Due.told("k0 1 1;").near(0, 0, 1), 1);
        E.due("POWER 1, d 1", Due.told("k0 1 1;").near(0, 1, 1), 0);
        E.due("POWER 999, d 128", Due.told("g8 8;k0 999 1;a4 4;").near(0, 36, 1), 7);
        E.of(6, "1: POWER less FALL times d, 0 if that is below");
        E.due("1 above it", Due.told("k1 10 9;").near(0, 1, 1), 1);
        E.due("just 0", Due.told("k1 9 9;").near(0, 1, 1), 0);
        E.due("1 below it", Due.told("k1 8 9;").near(0, 1, 1), 0);
        E.due("far below it", Due.told("g8 8;k1 1 99;a4 4;").near(0, 36, 1), 0);
        E.due("d 0", Due.told("k1 1 99;").near(3, 3, 1), 1);
        E.of(6, "2: POWER halved (cut) d times");
        E.due("d 0", Due.told("k2 999 1;").near(0, 0, 1), 999);
        E.due("POWER 1, d 1", Due.told("k2 1 1;").near(0, 1, 1), 0);
        E.due("d 9", Due.told("g8 8;k2 999 1;").near(0, 3, 1), 1);
        E.due("d 10", Due.told("g8 8;k2 999 1;").near(0, 25, 1), 0);
        E.due("d 32", Due.told("g8 8;k2 999 1;").near(0, 36, 1), 0);
        E.due("d 33", Due.told("g8 8;k2 999 1;a1 2;").near(0, 33, 1), 0);
        E.due("d 64", Due.told("g8 8;k2 999 1;a2 2;").near(0, 36, 1), 0);
        E.due("d 128", Due.told("g8 8;k2 999 1;a4 4;").near(0, 36, 1), 0);
    }
}
