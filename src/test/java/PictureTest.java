/** Promises 21 to 23: paints, ink, off. */
public final class PictureTest {
    private static final Due T = new Due("PictureTest");

    public static void main(String[] args) {
        picturesOfALine();
        picturesOfASquare();
        pictureStays();
        shutCells();
        largestGrid();
        refused();
        T.end();
    }

    private static void picture(DotThresholds x, int base, int dx, int dy, String print, int off) {
        int inked = 0;
        for (int i = 0; i < print.length(); i++) {
            inked += print.charAt(i) - '0';
        }
        String call = "paints(" + base + ", " + dx + ", " + dy + ")";
        T.due(call, x.paints(base, dx, dy), inked);
        for (int i = 0; i < print.length(); i++) {
            T.due(call + " ink of " + i, x.ink(i % x.count(0), i / x.count(0)), print.charAt(i) - '0');
        }
        T.due(call + " off()", x.off(), off);
    }

    /** RANKS 0, 3, 1, 2, 4. */
    private static void picturesOfALine() {
        DotThresholds x = Due.told("g5 1;d0 0;");
        picture(x, 0, 0, 0, "00000", 0);
        picture(x, 2, 0, 0, "10100", 0);
        picture(x, 0, 1, 0, "00110", 0);
        picture(x, 64, 0, 0, "11111", 0);
        picture(x, 64, -9, 9, "11111", 0);
        picture(x, 3, -2, 0, "10000", 5 - 4);
        picture(x, 0, 9, 9, "01111", 20 - 20);
        picture(x, 1, 1, 0, "10111", 20 - 15);
    }

    /** RANKS 0, 2 and 3, 1. */
    private static void picturesOfASquare() {
        DotThresholds x = Due.told("g2 2;d0 0;");
        picture(x, 0, 0, 4, "0011", 0);
        picture(x, 1, 0, 1, "1001", 8 - 6);
        picture(x, 3, 0, -9, "1100", 8 - 6);
        picture(x, 1, 1, 1, "1001", 8 - 8);
    }

    private static void pictureStays() {
        DotThresholds x = Due.told("g5 1;d0 0;");
        T.due("before: ink(0, 0)", x.ink(0, 0), 0);
        T.due("before: off()", x.off(), 0);
        x.paints(1, 0, 0);
        x.moves(0, 2);
        T.due("as DOTS are now: ink(0, 0)", x.ink(0, 0), 0);
        T.due("as DOTS are now: ink(2, 0)", x.ink(2, 0), 1);
        T.due("paints(65, 0, 0)", x.paints(65, 0, 0), Due.BAD);
        T.due("refused: ink(2, 0)", x.ink(2, 0), 1);
        x.flips(2, 0);
        T.due("paints(5, 0, 0), no DOT", x.paints(5, 0, 0), Due.STATE);
        x.flips(2, 0);
        T.due("refused: ink(2, 0)", x.ink(2, 0), 1);
        T.due("refused: ink(3, 0)", x.ink(3, 0), 0);
        x.paints(9, 9, 9);
        Due.reads(x, "g4 4;d3 3;");
        T.due("anew: ink(3, 3)", x.ink(3, 3), 0);
        T.due("anew: off()", x.off(), 0);
    }

    /** FREE is 2: no LEVEL is above it. */
    private static void shutCells() {
        DotThresholds x = Due.told("g3 1;s1 0;d2 0;");
        picture(x, 64, 0, 0, "101", 0);
        picture(x, 0, 1, 0, "001", 2 - 2);
        picture(x, 1, 0, 0, "001", 2 - 2);
    }

    /** All 64 CELLS are printed, and no one twice. */
    private static void largestGrid() {
        DotThresholds x = Due.told("g8 8;d0 0;");
        T.due("8 8: paints(64, 0, 0)", x.paints(64, 0, 0), 64);
        T.due("8 8: off()", x.off(), 0);
        T.due("8 8: paints(1, 0, 0)", x.paints(1, 0, 0), 1);
        T.due("8 8: off()", x.off(), 0);
    }

    private static void refused() {
        DotThresholds x = Due.told("g3 1;s1 0;d2 0;");
        int[][] bad = {{-1, 0, 0}, {65, 0, 0}, {0, 10, 0}, {0, -10, 0}, {0, 0, 10}, {0, 0, -10}};
        for (int[] b : bad) {
            T.due("paints of a wrong number", x.paints(b[0], b[1], b[2]), Due.BAD);
        }
        T.due("ink(3, 0)", x.ink(3, 0), Due.BAD);
        T.due("ink(0, 1)", x.ink(0, 1), Due.BAD);
        T.due("ink(-1, 0)", x.ink(-1, 0), Due.BAD);
        T.due("ink(0, -1)", x.ink(0, -1), Due.BAD);
        x.flips(2, 0);
        for (int[] b : bad) {
            T.due("paints of a wrong number, no DOT", x.paints(b[0], b[1], b[2]), Due.BAD);
        }
        T.due("paints(64, 9, -9), no DOT", x.paints(64, 9, -9), Due.STATE);
        T.due("ink(0, 0), no DOT", x.ink(0, 0), Due.STATE);
        T.due("ink(1, 0), SHUT, no DOT", x.ink(1, 0), Due.STATE);
        T.due("ink(3, 0), no DOT", x.ink(3, 0), Due.BAD);
        T.due("off(), no DOT", x.off(), Due.STATE);
    }
}
