/** Promises 16 to 20: rank, ranked, stage, shade, finest. */
public final class RankTest {
    private static final Due T = new Due("RankTest");

    public static void main(String[] args) {
        ranks("g5 1;d0 0;", new int[] {0, 2, 3, 1, 4}, new int[] {0, 1, 1, 2, 2});
        ranks("g6 1;d0 0;", new int[] {0, 3, 1, 4, 2, 5}, new int[] {0, 1, 1, 2, 2, 2});
        ranks("g6 1;d0 0;d1 0;d2 0;", new int[] {2, 0, 1, 4, 3, 5}, new int[] {0, 0, 0, 2, 2, 2});
        ranks("g2 2;d0 0;d1 0;d0 1;d1 1;", new int[] {2, 1, 3, 0}, new int[] {0, 0, 0, 0});
        ranks("g1 1;d0 0;", new int[] {0}, new int[] {0});
        ranks("g5 1;d2 0;d3 0;", new int[] {3, 2, 0, 1, 4}, new int[] {0, 0, 1, 2, 2});
        ranks("g4 1;d1 0;d2 0;", new int[] {2, 1, 0, 3}, new int[] {0, 0, 2, 2});
        turnedByFreeCellsAlone();
        ranksAsDotsAreNow();
        refusedWithoutDots();
        refusedNumbers();
        shadesOfFive();
        finestOfFive();
        nothingIsChanged();
        T.end();
    }

    /** The CELLS by their RANKS, and the stages of these. */
    private static void ranks(String text, int[] cells, int[] stages) {
        DotThresholds x = Due.told(text);
        int width = x.count(0);
        for (int rank = 0; rank < cells.length; rank++) {
            int c = cells[rank];
            T.due(text + " ranked(" + rank + ")", x.ranked(rank), c);
            T.due(text + " rank of " + c, x.rank(c % width, c / width), rank);
            T.due(text + " stage of " + c, x.stage(c % width, c / width), stages[rank]);
        }
        T.due(text + " ranked(-1)", x.ranked(-1), Due.BAD);
        T.due(text + " ranked(FREE)", x.ranked(cells.length), Due.BAD);
    }

    /** With a SHUT CELL the one that is HELD most by CELLS without a DOT need not be the VOID. */
    private static void turnedByFreeCellsAlone() {
        ranks("g5 1;s0 0;d1 0;", new int[] {1, 3, 2, 4}, new int[] {0, 1, 2, 2});
        ranks("g7 1;s0 0;d1 0;", new int[] {1, 4, 6, 3, 2, 5}, new int[] {0, 1, 1, 2, 2, 2});
    }

    private static void ranksAsDotsAreNow() {
        DotThresholds x = Due.told("g5 1;d0 0;");
        T.due("ranked(0)", x.ranked(0), 0);
        x.moves(0, 1);
        T.due("moved: ranked(0)", x.ranked(0), 1);
        x.undo();
        T.due("undone: ranked(0)", x.ranked(0), 0);
        x.keep(0);
        x.flips(0, 0);
        T.due("flipped: ranked(0)", x.ranked(0), Due.STATE);
        x.flips(3, 0);
        T.due("flipped: ranked(0)", x.ranked(0), 3);
        x.back(0);
        T.due("back: ranked(0)", x.ranked(0), 0);
        x.moves(0, 4);
        x.rests(1);
        T.due("rested: ranked(0)", x.ranked(0), 0);
    }

    private static void refusedWithoutDots() {
        DotThresholds x = Due.told("s1 1;");
        T.due("rank(0, 0)", x.rank(0, 0), Due.STATE);
        T.due("rank(1, 1), SHUT", x.rank(1, 1), Due.STATE);
        T.due("rank(4, 0)", x.rank(4, 0), Due.BAD);
        T.due("ranked(14)", x.ranked(14), Due.STATE);
        T.due("ranked(15)", x.ranked(15), Due.BAD);
        T.due("stage(0, 0)", x.stage(0, 0), Due.STATE);
        T.due("stage(1, 1), SHUT", x.stage(1, 1), Due.STATE);
        T.due("stage(0, 4)", x.stage(0, 4), Due.BAD);
        T.due("shade(0, 0)", x.shade(0, 0), Due.STATE);
        T.due("shade(15, 1)", x.shade(15, 1), Due.STATE);
        T.due("shade(16, 1)", x.shade(16, 1), Due.BAD);
        T.due("finest(0)", x.finest(0), Due.STATE);
        T.due("finest(1000)", x.finest(1000), Due.BAD);
        T.due("nothing FREE: ranked(0)", Due.told("g1 1;s0 0;").ranked(0), Due.BAD);
        T.due("nothing FREE: shade(0, 0)", Due.told("g1 1;s0 0;").shade(0, 0), Due.STATE);
    }

    private static void refusedNumbers() {
        DotThresholds x = Due.told("s1 1;d0 0;");
        T.due("rank(1, 1), SHUT", x.rank(1, 1), Due.NONE);
        T.due("rank(4, 0)", x.rank(4, 0), Due.BAD);
        T.due("rank(0, 4)", x.rank(0, 4), Due.BAD);
        T.due("rank(-1, 0)", x.rank(-1, 0), Due.BAD);
        T.due("rank(0, -1)", x.rank(0, -1), Due.BAD);
        T.due("stage(1, 1), SHUT", x.stage(1, 1), Due.NONE);
        T.due("stage(4, 0)", x.stage(4, 0), Due.BAD);
        T.due("stage(0, 4)", x.stage(0, 4), Due.BAD);
        T.due("stage(-1, 0)", x.stage(-1, 0), Due.BAD);
        T.due("stage(0, -1)", x.stage(0, -1), Due.BAD);
        T.due("shade(-1, 0)", x.shade(-1, 0), Due.BAD);
        T.due("shade(16, 0)", x.shade(16, 0), Due.BAD);
        T.due("shade(3, 2)", x.shade(3, 2), Due.BAD);
        T.due("shade(3, -1)", x.shade(3, -1), Due.BAD);
        T.due("finest(-1)", x.finest(-1), Due.BAD);
        T.due("finest(1000)", x.finest(1000), Due.BAD);
    }

    /** CELLS by RANKS: 0, 2, 3, 1, 4. */
    private static void shadesOfFive() {
        DotThresholds x = Due.told("g5 1;d0 0;");
        int[] gaps = {Due.NONE, Due.NONE, 4, 1, 1, 1};
        int[] holes = {Due.NONE, 4, 1, 1, 1, 0};
        for (int t = 0; t <= 5; t++) {
            T.due("shade(" + t + ", 0)", x.shade(t, 0), gaps[t]);
            T.due("shade(" + t + ", 1)", x.shade(t, 1), holes[t]);
        }
        T.due("shade(6, 0)", x.shade(6, 0), Due.BAD);
        // the farthest one from 0 is SHUT, so the HOLE is less deep
        x = Due.told("s2 2;d0 0;");
        T.due("a SHUT CELL is no HOLE", x.shade(1, 1), 5);
        x = Due.told("g2 1;a3 1;d1 0;");
        T.due("by AX: shade(2, 0)", x.shade(2, 0), 3);
        T.due("by AX: shade(1, 1)", x.shade(1, 1), 3);
        T.due("by AX: shade(2, 1)", x.shade(2, 1), 0);
    }

    private static void finestOfFive() {
        DotThresholds x = Due.told("g5 1;d0 0;");
        int[] want = {5, 5, 2, 2, 2, 1};
        for (int g = 0; g < want.length; g++) {
            T.due("finest(" + g + ")", x.finest(g), want[g]);
        }
        T.due("finest(999)", x.finest(999), 1);
        T.due("one CELL: finest(999)", Due.told("g1 1;d0 0;").finest(999), 1);
    }

    private static void nothingIsChanged() {
        DotThresholds x = Due.told("g5 1;d0 0;d1 0;");
        x.flips(4, 0);
        x.rank(0, 0);
        x.shade(3, 0);
        x.finest(2);
        T.shows("ranks were asked for", x, "oo..o/");
        T.due("held(0, 0)", x.held(0, 0), 200);
        T.due("may be UNDONE", x.count(11), 1);
    }
}
