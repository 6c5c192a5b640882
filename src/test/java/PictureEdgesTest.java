/** Promises 21 to 23 at their edges: paints, ink, off. */
public final class PictureEdgesTest {
    private static final Edges E = new Edges("PictureEdgesTest");

    public static void main(String[] args) {
        paintsRefused();
        numbersAtTheirBounds();
        levelsAtTheirBounds();
        printOfRanks();
        pictureStays();
        pictureBefore();
        inkRefused();
        inkOfShutCells();
        offRefused();
        offBothWays();
        E.end(21, 23);
    }

    // ---- promise 21

    private static void paintsRefused() {
        E.of(21, "A PICTURE (BASE 0 .. 64, DX, DY -9 .. 9): how many CELLS its PRINT has. BAD; STATE.");
        E.badBeyond("paints(n, 0, 0)", 0, 64, (x, n) -> x.paints(n, 0, 0), Starts.EACH);
        E.badBeyond("paints(5, n, 0)", -9, 9, (x, n) -> x.paints(5, n, 0), Starts.EACH);
        E.badBeyond("paints(5, 0, n)", -9, 9, (x, n) -> x.paints(5, 0, n), Starts.EACH);
        E.badBeyond("paints(n, n, n)", 0, 64, (x, n) -> x.paints(n, n, n), Starts.EACH);
        E.of(21, "STATE (as told; what hangs on RANKS, while there is no DOT)");
        E.state("paints(0, 0, 0)", x -> x.paints(0, 0, 0), Starts.NO_DOT, Starts.NEW);
        E.state("paints(64, 9, 9)", x -> x.paints(64, 9, 9), Starts.NO_DOT, Starts.NEW);
        E.state("paints(5, -9, -9)", x -> x.paints(5, -9, -9), Starts.NO_DOT, Starts.NEW);
        E.due("nothing FREE", Due.told("g1 1;s0 0;").paints(1, 1, 1), Due.STATE);
    }

    /** What the PRINT has, a letter a CELL, and how far OFF it is. */
    private static void picture(String text, int base, int dx, int dy, String print, int off) {
        DotThresholds x = Due.told(text);
        String call = text + " paints(" + base + ", " + dx + ", " + dy + ")";
        E.due(call, x.paints(base, dx, dy), print.replace("0", "").length());
        int width = x.count(0);
        for (int c = 0; c < print.length(); c++) {
            E.due(call + " ink of " + c, x.ink(c % width, c / width), print.charAt(c) - '0');
        }
        E.due(call + " off()", x.off(), off);
    }

    private static void numbersAtTheirBounds() {
        E.of(21, "A PICTURE (BASE 0 .. 64, DX, DY -9 .. 9)");
        // RANKS 0, 2, 1, 3
        picture("g4 1;d0 0;", 0, 0, 0, "0000", 0);
        picture("g4 1;d0 0;", 64, 0, 0, "1111", 0);
        picture("g4 1;d0 0;", 0, 9, 0, "0111", 0);
        picture("g4 1;d0 0;", 9, -9, 0, "1000", 0);
        picture("g1 4;d0 0;", 0, 0, 9, "0111", 0);
        picture("g1 4;d0 0;", 9, 0, -9, "1000", 0);
        picture("g1 1;d0 0;", 1, -9, -9, "1", 0);
        picture("g1 1;d0 0;", 0, 9, 9, "0", 0);
        DotThresholds x = Due.told("g8 8;d0 0;");
        E.due("the largest: paints(64, 0, 0)", x.paints(64, 0, 0), 64);
        E.due("the largest: paints(63, 0, 0)", x.paints(63, 0, 0), 63);
        E.due("the largest: paints(64, 9, 9)", x.paints(64, 9, 9), 64);
        // LEVEL of the last CELL is 64 less 63 and 63
        x.paints(64, -9, -9);
        E.due("the largest: paints(64, -9, -9), ink(7, 7)", x.ink(7, 7), 0);
        E.due("the largest: paints(64, -9, -9), ink(0, 0)", x.ink(0, 0), 1);
    }

    private static void levelsAtTheirBounds() {
        E.of(21, "BASE and x times DX and y times DY, but 0 at least, FREE at most");
        // below 0: LEVELS 2, 0, 0, 0 (else 2, -1, -4, -7)
        picture("g4 1;d0 0;", 2, -3, 0, "1000", 4 - 2);
        // above FREE: LEVELS 3, 4, 4, 4 (else 3, 6, 9, 12)
        picture("g4 1;d0 0;", 3, 3, 0, "1111", 16 - 15);
        // FREE is below WIDTH times HEIGHT: LEVELS 2 and 2 (3 for all CELLS)
        picture("g3 1;s1 0;d2 0;", 64, 0, 0, "101", 0);
        picture("g3 1;s1 0;d2 0;", 3, 0, 0, "101", 0);
        // just 0 and just FREE
        picture("g2 1;d0 0;", 1, -1, 0, "10", 2 - 1);
        picture("g2 1;d0 0;", 1, 1, 0, "11", 4 - 3);
        // both slopes: LEVELS 4, 3 and 2, 1 for RANKS 0, 2 and 3, 1
        picture("g2 2;d0 0;", 4, -1, -2, "1100", 8 - 10);
        picture("g2 2;d0 0;", 0, 3, -3, "0100", 4 - 3);
    }

    private static void printOfRanks() {
        E.of(21, "Its PRINT: FREE CELLS whose RANK is below their LEVEL.");
        for (int base = 0; base <= 5; base++) {
            E.due("paints(" + base + ", 0, 0)", Due.told("g4 1;d0 0;").paints(base, 0, 0), Math.min(base, 4));
        }
        // a RANK that is just the LEVEL is not below it
        picture("g4 1;d0 0;", 1, 0, 0, "1000", 0);
        picture("g4 1;d0 0;", 2, 0, 0, "1010", 0);
        picture("g4 1;d0 0;", 3, 0, 0, "1110", 0);
    }

    private static void pictureStays() {
        E.of(21, "(It stays till the next one; 0, 0, 0 before.)");
        DotThresholds x = Due.told("g4 1;d0 0;");
        x.paints(1, 0, 0);
        x.keep(0);
        x.moves(0, 2);
        E.due("moved: ink(2, 0)", x.ink(2, 0), 1);
        E.due("moved: ink(0, 0)", x.ink(0, 0), 0);
        x.undo();
        E.due("undone: ink(0, 0)", x.ink(0, 0), 1);
        x.flips(0, 0);
        E.due("no DOT: ink(0, 0)", x.ink(0, 0), Due.STATE);
        E.due("no DOT: paints(4, 0, 0)", x.paints(4, 0, 0), Due.STATE);
        x.flips(3, 0);
        E.due("flipped: ink(3, 0)", x.ink(3, 0), 1);
        E.due("flipped: ink(0, 0)", x.ink(0, 0), 0);
        E.due("paints(65, 0, 0)", x.paints(65, 0, 0), Due.BAD);
        E.due("refused: ink(0, 0)", x.ink(0, 0), 0);
        x.back(0);
        E.due("back: ink(0, 0)", x.ink(0, 0), 1);
        E.due("back: ink(1, 0)", x.ink(1, 0), 0);
        E.due("the next one", x.paints(3, 0, 0), 3);
        E.due("the next one: ink(1, 0)", x.ink(1, 0), 1);
        E.due("the next one, 0 at first", x.paints(0, 0, 0), 0);
        E.due("the next one: ink(0, 0)", x.ink(0, 0), 0);
    }

    private static void pictureBefore() {
        E.of(21, "0, 0, 0 before");
        DotThresholds x = new DotThresholds();
        x.flips(0, 0);
        E.due("new: ink(0, 0)", x.ink(0, 0), 0);
        E.due("new: off()", x.off(), 0);
        x.paints(64, 9, 9);
        Due.reads(x, "d0 0;");
        E.due("read anew: ink(0, 0)", x.ink(0, 0), 0);
        E.due("read anew: off()", x.off(), 0);
        E.of(21, "how many CELLS its PRINT has");
        x.flips(1, 1);
        x.keep(0);
        x.sees(0, 1);
        x.paints(64, 0, 0);
        x.paints(0, 0, 0);
        DotThresholds other = Due.told("d0 0;");
        other.flips(1, 1);
        other.keep(0);
        other.sees(0, 1);
        E.alike("nothing but the PICTURE is changed", x, other);
    }

    // ---- promise 22

    private static void inkRefused() {
        E.of(22, "Whether a CELL is in the PRINT (1, 0). BAD; STATE.");
        E.badBeyond("ink(n, 0)", 0, 2, (x, n) -> x.ink(n, 0), Starts.TOLD);
        E.badBeyond("ink(n, 1)", 0, 2, (x, n) -> x.ink(n, 1), Starts.TOLD);
        E.badBeyond("ink(0, n)", 0, 1, (x, n) -> x.ink(0, n), Starts.TOLD);
        E.badBeyond("ink(2, n)", 0, 1, (x, n) -> x.ink(2, n), Starts.TOLD);
        E.badBeyond("ink(n, n)", 0, 2, (x, n) -> x.ink(n, n), Starts.TOLD);
        E.bad("ink(4, 0)", x -> x.ink(4, 0), Starts.NEW);
        E.bad("ink(0, 4)", x -> x.ink(0, 4), Starts.NEW);
        E.of(22, "STATE (as told; what hangs on RANKS, while there is no DOT)");
        E.state("ink(0, 0)", x -> x.ink(0, 0), Starts.NO_DOT, Starts.NEW);
        E.state("ink(2, 1)", x -> x.ink(2, 1), Starts.NO_DOT, Starts.NEW);
        E.state("ink(1, 1), SHUT", x -> x.ink(1, 1), Starts.NO_DOT);
        E.due("nothing FREE", Due.told("g1 1;s0 0;").ink(0, 0), Due.STATE);
    }

    private static void inkOfShutCells() {
        E.of(22, "Its PRINT: FREE CELLS whose RANK is below their LEVEL.");
        E.leavesAll("ink(1, 1), SHUT", x -> x.ink(1, 1), 0, Starts.WITH_DOTS);
        DotThresholds x = Due.told("g3 1;s0 0;s2 0;d1 0;");
        E.due("paints(64, 9, 9)", x.paints(64, 9, 9), 1);
        E.due("SHUT, ink(0, 0)", x.ink(0, 0), 0);
        E.due("FREE, ink(1, 0)", x.ink(1, 0), 1);
        E.due("SHUT, ink(2, 0)", x.ink(2, 0), 0);
    }

    // ---- promise 23

    private static void offRefused() {
        E.of(23, "OFF. STATE.");
        E.state("off()", DotThresholds::off, Starts.NO_DOT, Starts.NEW);
        E.due("nothing FREE", Due.told("g1 1;s0 0;").off(), Due.STATE);
    }

    private static void offBothWays() {
        E.of(23, "OFF: FREE times how many CELLS the PRINT has, less all LEVELS of FREE CELLS together.");
        // LEVELS 0, 1, 2, 3 for RANKS 0, 2, 1, 3
        picture("g4 1;d0 0;", 0, 1, 0, "0010", 4 - 6);
        picture("g4 1;d0 0;", 3, -2, 0, "1000", 4 - 4);
        // LEVELS 1, 2, 3, 4
        picture("g4 1;d0 0;", 1, 1, 0, "1011", 12 - 10);
        picture("g4 1;d0 0;", 0, 0, 0, "0000", 0);
        picture("g4 1;d0 0;", 64, 9, 9, "1111", 0);
        // the LEVEL of the SHUT CELL does not count
        picture("g3 1;s0 0;d1 0;", 1, 0, 0, "010", 2 - 2);
        picture("g3 1;s2 0;d0 0;", 0, 1, 0, "000", 0 - 1);
        largestOff();
        E.asks("off()", DotThresholds::off, Starts.WITH_DOTS);
    }

    private static void largestOff() {
        E.of(23, "FREE times how many CELLS the PRINT has, less all LEVELS of FREE CELLS together");
        DotThresholds x = Due.told("g8 8;d0 0;");
        int[] bases = {0, 1, 63, 64};
        for (int base : bases) {
            E.due("64 CELLS, paints(" + base + ", 0, 0)", x.paints(base, 0, 0), base);
            E.due("64 CELLS, paints(" + base + ", 0, 0), off()", x.off(), 0);
        }
    }
}
