/** Promises 16 to 20 at their edges: rank, ranked, stage, shade, finest. */
public final class RankEdgesTest {
    private static final Edges E = new Edges("RankEdgesTest");
    private static final int NONE = Due.NONE;

    public static void main(String[] args) {
        rankRefused();
        rankOfShutCells();
        rankedRefused();
        stageRefused();
        thinned();
        filled();
        turned();
        ranksOfTheLargestGrid();
        ranksAsDotsAreNow();
        shadeRefused();
        gaps();
        holes();
        finestRefused();
        finest();
        E.end(16, 20);
    }

    // ---- promise 16

    private static void rankRefused() {
        E.of(16, "RANK; NONE: SHUT. BAD; STATE.");
        E.badBeyond("rank(n, 0)", 0, 2, (x, n) -> x.rank(n, 0), Starts.TOLD);
        E.badBeyond("rank(n, 1)", 0, 2, (x, n) -> x.rank(n, 1), Starts.TOLD);
        E.badBeyond("rank(0, n)", 0, 1, (x, n) -> x.rank(0, n), Starts.TOLD);
        E.badBeyond("rank(2, n)", 0, 1, (x, n) -> x.rank(2, n), Starts.TOLD);
        E.badBeyond("rank(n, n)", 0, 2, (x, n) -> x.rank(n, n), Starts.TOLD);
        E.bad("rank(4, 0)", x -> x.rank(4, 0), Starts.NEW);
        E.bad("rank(0, 4)", x -> x.rank(0, 4), Starts.NEW);
        E.of(16, "STATE (as told; what hangs on RANKS, while there is no DOT)");
        E.state("rank(0, 0)", x -> x.rank(0, 0), Starts.NO_DOT, Starts.NEW);
        E.state("rank(2, 1)", x -> x.rank(2, 1), Starts.NO_DOT, Starts.NEW);
        E.state("rank(1, 1), SHUT", x -> x.rank(1, 1), Starts.NO_DOT);
        E.due("nothing FREE", Due.told("g1 1;s0 0;").rank(0, 0), Due.STATE);
    }

    private static void rankOfShutCells() {
        E.of(16, "RANK; NONE: SHUT.");
        E.leavesAll("rank(1, 1)", x -> x.rank(1, 1), NONE, Starts.WITH_DOTS);
        ranks("g2 1;s0 0;d1 0;", "1", "0");
        ranks("g2 1;s1 0;d0 0;", "0", "0");
        E.of(16, "RANKS 0, 1, .. of all FREE CELLS, as DOTS are now (there must be one)");
        ranks("g1 1;d0 0;", "0", "0");
        ranks("g4 1;s3 0;d0 0;", "021", "012");
    }

    /** The CELLS by their RANKS and the stages of these, a letter each; all else is refused. */
    private static void ranks(String text, String cells, String stages) {
        DotThresholds x = Due.told(text);
        int width = x.count(0);
        E.due(text + " FREE", x.count(2), cells.length());
        for (int rank = 0; rank < cells.length(); rank++) {
            int c = cells.charAt(rank) - '0';
            E.due(text + " ranked(" + rank + ")", x.ranked(rank), c);
            E.due(text + " rank of " + c, x.rank(c % width, c / width), rank);
            E.due(text + " stage of " + c, x.stage(c % width, c / width), stages.charAt(rank) - '0');
        }
        E.due(text + " ranked(-1)", x.ranked(-1), Due.BAD);
        E.due(text + " ranked(FREE)", x.ranked(cells.length()), Due.BAD);
    }

    // ---- promise 17

    private static void rankedRefused() {
        E.of(17, "The CELL of a RANK. BAD; STATE.");
        E.badBeyond("ranked", 0, 4, DotThresholds::ranked, Starts.TOLD);
        E.badBeyond("ranked", 0, 15, DotThresholds::ranked, Starts.NEW);
        E.due("nothing FREE, ranked(0)", Due.told("g1 1;s0 0;").ranked(0), Due.BAD);
        E.of(17, "STATE (as told; what hangs on RANKS, while there is no DOT)");
        E.state("ranked(0)", x -> x.ranked(0), Starts.NO_DOT, Starts.NEW);
        E.state("ranked(4)", x -> x.ranked(4), Starts.NO_DOT, Starts.NEW);
        E.state("ranked(15)", x -> x.ranked(15), Starts.NEW);
    }

    // ---- promise 18

    private static void stageRefused() {
        E.of(18, "0 THINNED, 1 FILLED, 2 TURNED; NONE: SHUT. BAD; STATE.");
        E.badBeyond("stage(n, 0)", 0, 2, (x, n) -> x.stage(n, 0), Starts.TOLD);
        E.badBeyond("stage(n, 1)", 0, 2, (x, n) -> x.stage(n, 1), Starts.TOLD);
        E.badBeyond("stage(0, n)", 0, 1, (x, n) -> x.stage(0, n), Starts.TOLD);
        E.badBeyond("stage(2, n)", 0, 1, (x, n) -> x.stage(2, n), Starts.TOLD);
        E.badBeyond("stage(n, n)", 0, 2, (x, n) -> x.stage(n, n), Starts.TOLD);
        E.bad("stage(4, 0)", x -> x.stage(4, 0), Starts.NEW);
        E.bad("stage(0, 4)", x -> x.stage(0, 4), Starts.NEW);
        E.leavesAll("stage(1, 1), SHUT", x -> x.stage(1, 1), NONE, Starts.WITH_DOTS);
        E.of(18, "STATE (as told; what hangs on RANKS, while there is no DOT)");
        E.state("stage(0, 0)", x -> x.stage(0, 0), Starts.NO_DOT, Starts.NEW);
        E.state("stage(1, 1), SHUT", x -> x.stage(1, 1), Starts.NO_DOT);
        E.due("nothing FREE", Due.told("g1 1;s0 0;").stage(0, 0), Due.STATE);
    }

    private static void thinned() {
        E.of(18, "THINNED: of these DOTS the TIGHTEST is taken away, it has the RANK of how many are left; till none is.");
        ranks("g2 1;d0 0;d1 0;", "10", "00");
        ranks("g4 1;d0 0;d1 0;d2 0;d3 0;", "3120", "0000");
        ranks("g4 1;d0 0;d1 0;d2 0;", "2013", "0002");
        // 0 and 4 lie beside each other
        ranks("g5 1;d4 0;d2 0;d0 0;", "42013", "00022");
    }

    private static void filled() {
        E.of(18, "while they are fewer than half of FREE (FREE and 1 by 2, cut)");
        // FREE is even: one below half, just half, one above
        ranks("g4 1;d0 0;", "0213", "0122");
        ranks("g4 1;d0 0;d1 0;", "1023", "0022");
        ranks("g4 1;d0 0;d1 0;d2 0;", "2013", "0002");
        // FREE is odd: two below, one below, just there, one above
        ranks("g5 1;d0 0;", "02314", "01122");
        ranks("g5 1;d0 0;d1 0;", "10324", "00122");
        ranks("g5 1;d0 0;d1 0;d2 0;", "20134", "00022");
        ranks("g5 1;d0 0;d1 0;d2 0;d3 0;", "30214", "00002");
        // FREE is 2 and 3
        ranks("g2 1;d1 0;", "10", "02");
        ranks("g3 1;d1 0;", "102", "012");
        // FREE is odd only by a SHUT CELL
        ranks("g4 1;s3 0;d0 0;d1 0;", "102", "002");
        E.of(18, "the VOID has the RANK of how many DOTS there are, and a DOT");
        ranks("g6 1;d0 0;", "031425", "011222");
        ranks("g7 1;s0 0;d1 0;", "146325", "011222");
    }

    private static void turned() {
        E.of(18, "of these FREE ones the one that is HELD most (by FREE CELLS without a DOT), of several the lowest");
        // 4 lies beside the SHUT CELL, which holds nothing
        ranks("g5 1;s0 0;d1 0;", "1324", "0122");
        ranks("g4 1;d0 0;d1 0;", "1023", "0022");
        E.of(18, "TURNED: then CELLS without a DOT hold, not DOTS");
        // DOTS hold 3 and 5 more than 4
        ranks("g6 1;d0 0;d1 0;d2 0;", "201435", "000222");
        E.of(18, "has the RANK of how many DOTS there are, and a DOT; till all have");
        ranks("g2 1;d0 0;", "01", "02");
        ranks("g3 1;d0 0;d1 0;", "102", "002");
    }

    private static void ranksOfTheLargestGrid() {
        E.of(17, "RANKS 0, 1, .. of all FREE CELLS");
        DotThresholds x = Due.told("g8 8;d7 7;");
        int[] stages = new int[3];
        for (int rank = 0; rank < 64; rank++) {
            int c = x.ranked(rank);
            E.due("rank of " + c, x.rank(c % 8, c / 8), rank);
            int stage = x.stage(c % 8, c / 8);
            E.due("stage of RANK " + rank, stage, rank < 1 ? 0 : rank < 32 ? 1 : 2);
        }
        E.due("ranked(0)", x.ranked(0), 63);
        E.due("ranked(64)", x.ranked(64), Due.BAD);
        for (int c = 0; c < 63; c++) {
            x.flips(c % 8, c / 8);
        }
        E.due("all have DOTS, ranked(63)", x.ranked(63), 0);
        E.due("all have DOTS, stage(7, 7)", x.stage(7, 7), 0);
        allSixtyFourAtOnce();
    }

    /** RANKS are asked for only when all have DOTS. */
    private static void allSixtyFourAtOnce() {
        E.of(17, "RANKS 0, 1, .. of all FREE CELLS");
        DotThresholds x = Due.told("g8 8;");
        for (int c = 0; c < 64; c++) {
            x.flips(c % 8, c / 8);
        }
        boolean[] found = new boolean[64];
        for (int rank = 0; rank < 64; rank++) {
            int c = x.ranked(rank);
            E.due("CELL " + c + " has one RANK", found[c] ? 1 : 0, 0);
            found[c] = true;
            E.due("rank of " + c, x.rank(c % 8, c / 8), rank);
        }
        E.due("the lowest is the TIGHTEST of all", x.ranked(63), 0);
    }

    private static void ranksAsDotsAreNow() {
        E.of(16, "RANKS 0, 1, .. of all FREE CELLS, as DOTS are now (there must be one)");
        DotThresholds x = Due.told("g4 1;d0 0;");
        E.due("ranked(1)", x.ranked(1), 2);
        x.flips(1, 0);
        E.due("flipped: ranked(0)", x.ranked(0), 1);
        x.flips(0, 0);
        E.due("flipped: ranked(1)", x.ranked(1), 3);
        x.flips(1, 0);
        E.due("flipped: no DOT", x.ranked(1), Due.STATE);
        x.undo();
        E.due("undone: ranked(1)", x.ranked(1), 3);
        // the same DOT, but all else is told anew
        String[] texts = {"g4 1;d0 0;", "g4 1;s2 0;d0 0;", "g4 1;k2 1 1;d0 0;", "g4 2;d0 0;", "g4 2;a1 4;s2 1;d0 0;"};
        int[] want = {2, 1, 1, 6, 5};
        for (int i = 0; i < texts.length; i++) {
            Due.reads(x, texts[i]);
            E.due(texts[i] + " anew: ranked(1)", x.ranked(1), want[i]);
        }
        E.of(17, "(As DOTS are NOW; nothing is changed.)");
        E.asks("ranked(0)", y -> y.ranked(0), Starts.WITH_DOTS);
        E.asks("rank(0, 0)", y -> y.rank(0, 0), Starts.WITH_DOTS);
        E.asks("stage(0, 0)", y -> y.stage(0, 0), Starts.WITH_DOTS);
        E.asks("shade(3, 0)", y -> y.shade(3, 0), Starts.WITH_DOTS);
    }

    // ---- promise 19

    private static void shadeRefused() {
        E.of(19, "Of a SHADE: 0 GAP, 1 HOLE; NONE. BAD; STATE.");
        E.badBeyond("shade(n, 0)", 0, 5, (x, n) -> x.shade(n, 0), Starts.TOLD);
        E.badBeyond("shade(n, 1)", 0, 5, (x, n) -> x.shade(n, 1), Starts.TOLD);
        E.badBeyond("shade(n, 1)", 0, 16, (x, n) -> x.shade(n, 1), Starts.NEW);
        E.badBeyond("shade(0, n)", 0, 1, (x, n) -> x.shade(0, n), Starts.EACH);
        E.badBeyond("shade(5, n)", 0, 1, (x, n) -> x.shade(5, n), Starts.EACH);
        E.of(19, "STATE (as told; what hangs on RANKS, while there is no DOT)");
        E.state("shade(0, 0)", x -> x.shade(0, 0), Starts.NO_DOT, Starts.NEW);
        E.state("shade(0, 1)", x -> x.shade(0, 1), Starts.NO_DOT, Starts.NEW);
        E.state("shade(5, 1)", x -> x.shade(5, 1), Starts.NO_DOT, Starts.NEW);
        E.due("nothing FREE, shade(0, 0)", Due.told("g1 1;s0 0;").shade(0, 0), Due.STATE);
        E.due("nothing FREE, shade(1, 0)", Due.told("g1 1;s0 0;").shade(1, 0), Due.BAD);
    }

    /** GAP or HOLE of every SHADE from 0 to FREE, which is the last. */
    private static void shades(String text, int what, int... want) {
        DotThresholds x = Due.told(text);
        for (int t = 0; t < want.length; t++) {
            E.due(text + " shade(" + t + ", " + what + ")", x.shade(t, what), want[t]);
        }
        E.due(text + " shade(FREE and 1, " + what + ")", x.shade(want.length, what), Due.BAD);
    }

    private static void gaps() {
        E.of(19, "GAP of a SHADE: the least DISTANCE of two unlike CELLS of it; NONE (fewer than two).");
        shades("g1 1;d0 0;", 0, NONE, NONE);
        shades("g3 1;s0 0;s2 0;d1 0;", 0, NONE, NONE);
        shades("g2 1;d0 0;", 0, NONE, NONE, 1);
        shades("g4 1;d0 0;", 0, NONE, NONE, 4, 1, 1);
        shades("g4 1;s1 0;s2 0;d0 0;", 0, NONE, NONE, 1);
        shades("g2 1;a4 1;d0 0;", 0, NONE, NONE, 4);
        shades("g1 2;a4 3;d0 0;", 0, NONE, NONE, 3);
        // round the edge
        shades("g5 1;d0 0;d4 0;", 0, NONE, NONE, 1, 1, 1, 1);
        DotThresholds x = Due.told("g8 8;k0 999 1;a4 4;d0 0;");
        E.due("the largest: shade(2, 0)", x.shade(2, 0), 128);
        E.due("the largest: shade(64, 0)", x.shade(64, 0), 4);
        E.due("the largest: shade(65, 0)", x.shade(65, 0), Due.BAD);
    }

    private static void holes() {
        E.of(19, "HOLE: the greatest DISTANCE of a FREE CELL from the CELL of the SHADE that is nearest to it; NONE (SHADE 0).");
        shades("g1 1;d0 0;", 1, NONE, 0);
        shades("g2 1;d0 0;", 1, NONE, 1, 0);
        shades("g4 1;d0 0;", 1, NONE, 4, 1, 1, 0);
        shades("g5 1;d0 0;d4 0;", 1, NONE, 4, 4, 1, 1, 0);
        // the first and the last CELL alone are far off
        shades("g4 1;d2 0;", 1, NONE, 4, 1, 1, 0);
        shades("g4 1;d1 0;", 1, NONE, 4, 1, 1, 0);
        // SHUT CELLS are no part of it
        shades("g3 1;s0 0;s2 0;d1 0;", 1, NONE, 0);
        shades("g4 1;s2 0;d0 0;", 1, NONE, 1, 1, 0);
        DotThresholds x = Due.told("g8 8;k0 999 1;a4 4;d0 0;");
        E.due("the largest: shade(0, 1)", x.shade(0, 1), NONE);
        E.due("the largest: shade(1, 1)", x.shade(1, 1), 128);
        E.due("the largest: shade(64, 1)", x.shade(64, 1), 0);
        E.due("the largest: shade(65, 1)", x.shade(65, 1), Due.BAD);
    }

    // ---- promise 20

    private static void finestRefused() {
        E.of(20, "FINEST of g (0 .. 999). BAD; STATE.");
        E.badBeyond("finest", 0, 999, DotThresholds::finest, Starts.EACH);
        E.of(20, "STATE (as told; what hangs on RANKS, while there is no DOT)");
        E.state("finest(0)", x -> x.finest(0), Starts.NO_DOT, Starts.NEW);
        E.state("finest(999)", x -> x.finest(999), Starts.NO_DOT, Starts.NEW);
        E.due("nothing FREE", Due.told("g1 1;s0 0;").finest(0), Due.STATE);
    }

    private static void finests(String text, int... gAndWant) {
        DotThresholds x = Due.told(text);
        for (int i = 0; i + 1 < gAndWant.length; i += 2) {
            E.due(text + " finest(" + gAndWant[i] + ")", x.finest(gAndWant[i]), gAndWant[i + 1]);
        }
    }

    private static void finest() {
        E.of(20, "FINEST of g: the greatest t whose SHADE has a GAP of g or more, or NONE.");
        // a GAP of just g is enough; SHADE 1 has none
        finests("g4 1;d0 0;", 0, 4, 1, 4, 2, 2, 3, 2, 4, 2, 5, 1, 999, 1);
        finests("g1 1;d0 0;", 0, 1, 1, 1, 999, 1);
        finests("g2 1;a4 1;d0 0;", 0, 2, 4, 2, 5, 1);
        finests("g3 1;s0 0;s2 0;d1 0;", 0, 1, 999, 1);
        finests("g5 1;d0 0;d4 0;", 1, 5, 2, 1);
        finests("g8 8;k0 999 1;a4 4;d0 0;", 0, 64, 4, 64, 128, 2, 129, 1, 999, 1);
        E.leavesAll("finest(999)", x -> x.finest(999), 1, Starts.WITH_DOTS);
        E.leavesAll("finest(0)", x -> x.finest(0), 5, Starts.WITH_DOTS);
    }
}
