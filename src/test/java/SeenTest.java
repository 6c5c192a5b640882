/** Promises 24 to 26: sees, forget, unseen. */
public final class SeenTest {
    private static final Due T = new Due("SeenTest");

    public static void main(String[] args) {
        sees();
        linesOfALargeGrid();
        forget();
        unseen();
        unseenIsRefused();
        T.end();
    }

    private static void sees() {
        DotThresholds x = Due.told("g3 2;");
        int[][] bad = {{-1, 0}, {2, 0}, {7, 0}, {11, 0}, {15, 0}, {0, -1}, {0, 9}, {Integer.MIN_VALUE, 0},
            {Integer.MAX_VALUE, 0}};
        for (int[] b : bad) {
            T.due("sees(" + b[0] + ", " + b[1] + ")", x.sees(b[0], b[1]), Due.BAD);
        }
        T.due("refused: SEEN", x.count(9), 0);
        int[][] good = {{0, 0}, {1, 8}, {8, 0}, {10, 8}, {1, 8}, {9, 1}};
        for (int i = 0; i < good.length; i++) {
            T.due("sees(" + good[i][0] + ", " + good[i][1] + ")", x.sees(good[i][0], good[i][1]), i + 1);
        }
        T.due("sees(0, 0), 6 are SEEN", x.sees(0, 0), Due.FULL);
        T.due("sees(2, 0), 6 are SEEN", x.sees(2, 0), Due.BAD);
        T.due("SEEN", x.count(9), 6);
    }

    private static void linesOfALargeGrid() {
        DotThresholds x = Due.told("g8 8;d7 7;");
        T.due("sees(7, 1)", x.sees(7, 1), 1);
        T.due("sees(15, 1)", x.sees(15, 1), 2);
        T.due("sees(16, 1)", x.sees(16, 1), Due.BAD);
        T.due("unseen(1), line 7 and column 7", x.unseen(1), 1);
        x.forget();
        x.sees(7, 8);
        x.sees(8, 8);
        T.due("unseen(2), all of them", x.unseen(2), 64);
    }

    private static void forget() {
        DotThresholds x = Due.told("g2 2;d0 0;");
        T.due("forget() of none", x.forget(), 0);
        x.sees(0, 1);
        x.sees(8, 1);
        T.due("forget()", x.forget(), 2);
        T.due("SEEN", x.count(9), 0);
        T.due("unseen(0)", x.unseen(0), 5);
        T.due("forget() again", x.forget(), 0);
        T.due("sees(0, 1)", x.sees(0, 1), 1);
    }

    private static void fit(DotThresholds x, int many, int least, int greatest) {
        T.due("unseen(0), " + x.count(9) + " SEEN", x.unseen(0), many);
        T.due("unseen(1), " + x.count(9) + " SEEN", x.unseen(1), least);
        T.due("unseen(2), " + x.count(9) + " SEEN", x.unseen(2), greatest);
    }

    /** CELLS by RANKS: 0, 3, 1, 2. */
    private static void unseen() {
        DotThresholds x = Due.told("g2 2;d0 0;");
        fit(x, 5, 0, 4);
        x.sees(0, 1);
        fit(x, 2, 1, 2);
        x.sees(9, 1);
        fit(x, 1, 2, 2);
        x.sees(1, 1);
        fit(x, 1, 2, 2);
        x.sees(8, 2);
        fit(x, 0, Due.NONE, Due.NONE);
        x.forget();
        x.sees(1, 0);
        fit(x, 2, 0, 1);
        x.forget();
        x.sees(8, 1);
        fit(x, 3, 1, 3);
        x.sees(8, 0);
        fit(x, 0, Due.NONE, Due.NONE);
        x.forget();
        x.sees(0, 8);
        fit(x, 0, Due.NONE, Due.NONE);
        x.forget();
        x.sees(8, 2);
        fit(x, 1, 4, 4);
        // what was SEEN stays, as DOTS are now
        x.forget();
        x.sees(0, 0);
        fit(x, 1, 0, 0);
        x.moves(0, 2);
        fit(x, 2, 0, 1);
    }

    private static void unseenIsRefused() {
        DotThresholds x = new DotThresholds();
        T.due("unseen(-1), no DOT", x.unseen(-1), Due.BAD);
        T.due("unseen(3), no DOT", x.unseen(3), Due.BAD);
        for (int what = 0; what <= 2; what++) {
            T.due("unseen(" + what + "), no DOT", x.unseen(what), Due.STATE);
        }
        T.due("sees(0, 1), no DOT", x.sees(0, 1), 1);
        x.flips(0, 0);
        T.due("unseen(-1)", x.unseen(-1), Due.BAD);
        T.due("unseen(3)", x.unseen(3), Due.BAD);
    }
}
