/** Promises 24 to 26 at their edges: sees, forget, unseen. */
public final class SeenEdgesTest {
    private static final Edges E = new Edges("SeenEdgesTest");
    private static final int NONE = Due.NONE;

    public static void main(String[] args) {
        seesRefused();
        linesAndColumns();
        seesIsFull();
        seesChangesNothingElse();
        forget();
        unseenRefused();
        unseenOfNothing();
        unseenOfNone();
        unseenAtBothEnds();
        unseenByLinesAndColumns();
        E.end(24, 26);
    }

    // ---- promise 24

    private static void seesRefused() {
        E.of(24, "SEEN: how much there is. BAD (n 0 .. 8)");
        E.badBeyond("sees(0, n)", 0, 8, (x, n) -> x.sees(0, n), Starts.EACH);
        E.badBeyond("sees(10, n)", 0, 8, (x, n) -> x.sees(10, n), Starts.EACH);
        E.of(24, "line k (0 .. HEIGHT less 1), or column k (8 and 0 .. WIDTH less 1)");
        E.badBeyond("sees(n, 0)", 0, 10, (x, n) -> x.sees(n, 0), Starts.TOLD);
        for (int line = 2; line <= 7; line++) {
            int none = line;
            E.bad("no such line, sees(" + none + ", 0)", x -> x.sees(none, 0), Starts.TOLD);
        }
        E.badBeyond("sees(n, 0)", 0, 11, (x, n) -> x.sees(n, 0), Starts.NEW);
        E.bad("sees(4, 0)", x -> x.sees(4, 0), Starts.NEW);
        E.bad("sees(7, 0)", x -> x.sees(7, 0), Starts.NEW);
        E.badBeyond("sees(n, n)", 0, 15, (x, n) -> x.sees(n, n), Starts.EACH);
    }

    private static void linesAndColumns() {
        E.of(24, "line k (0 .. HEIGHT less 1), or column k (8 and 0 .. WIDTH less 1)");
        int[][] sizes = {{1, 1}, {8, 1}, {1, 8}, {8, 8}, {3, 2}, {5, 7}};
        for (int[] size : sizes) {
            DotThresholds x = Due.told("g" + size[0] + " " + size[1] + ";");
            for (int line = -1; line <= 17; line++) {
                boolean fits = line >= 0 && line < size[1] || line >= 8 && line < 8 + size[0];
                E.due(size[0] + " by " + size[1] + ", sees(" + line + ", 0)", x.sees(line, 0), fits ? 1 : Due.BAD);
                x.forget();
            }
        }
        E.of(24, "BAD (n 0 .. 8)");
        DotThresholds x = Due.told("g1 1;");
        E.due("n is 8, more than there are", x.sees(0, 8), 1);
        E.due("n is 0", x.sees(8, 0), 2);
    }

    private static void seesIsFull() {
        E.of(24, "SEEN (6 at most)");
        DotThresholds x = Due.told("g1 1;");
        for (int n = 1; n <= 6; n++) {
            E.due("the same once more", x.sees(0, 1), n);
            E.due("SEEN", x.count(9), n);
        }
        E.due("a seventh", x.sees(8, 1), Due.FULL);
        E.due("SEEN", x.count(9), 6);
        E.of(24, "FULL: 6.");
        E.full("sees(0, 0)", y -> y.sees(0, 0), Starts.FULL);
        E.full("sees(10, 8)", y -> y.sees(10, 8), Starts.FULL);
        E.of(24, "the first of these: BAD (a number is not as told, or there is no such thing)");
        E.bad("sees(2, 0)", y -> y.sees(2, 0), Starts.FULL);
        E.bad("sees(11, 0)", y -> y.sees(11, 0), Starts.FULL);
        E.bad("sees(0, 9)", y -> y.sees(0, 9), Starts.FULL);
    }

    private static void seesChangesNothingElse() {
        E.of(24, "SEEN: how much there is.");
        DotThresholds x = Starts.NO_DOT.made();
        E.due("no DOT", x.sees(1, 1), 3);
        x = Starts.NEW.made();
        E.due("no DOT ever", x.sees(0, 0), 1);
        x.forget();
        E.alike("SEEN, then forgotten", x, Starts.NEW.made());
        x = Starts.BUSY.made();
        x.sees(1, 1);
        x.forget();
        DotThresholds other = Starts.BUSY.made();
        other.forget();
        E.alike("SEEN or not, it is forgotten", x, other);
    }

    // ---- promise 25

    private static void forget() {
        E.of(25, "Nothing is SEEN: how much was.");
        E.leavesAll("nothing was", DotThresholds::forget, 0, Starts.NEW);
        E.due("two were", Starts.BUSY.made().forget(), 2);
        DotThresholds x = Starts.FULL.made();
        E.due("six were", x.forget(), 6);
        E.due("nothing was then", x.forget(), 0);
        E.due("SEEN", x.count(9), 0);
        E.due("all SHADES again", x.unseen(0), 6);
        for (int n = 1; n <= 6; n++) {
            E.due("there is room again", x.sees(1, 0), n);
        }
        E.due("FULL again", x.sees(1, 0), Due.FULL);
    }

    // ---- promise 26

    private static void unseenRefused() {
        E.of(26, "UNSEEN: how many SHADES (what = 0), the least (1), the greatest (2); NONE. BAD; STATE.");
        E.badBeyond("unseen", 0, 2, DotThresholds::unseen, Starts.EACH);
        E.of(26, "STATE (as told; what hangs on RANKS, while there is no DOT)");
        for (int w = 0; w <= 2; w++) {
            int what = w;
            E.state("unseen(" + what + ")", x -> x.unseen(what), Starts.NO_DOT, Starts.NEW);
            E.due("nothing FREE", Due.told("g1 1;s0 0;").unseen(what), Due.STATE);
        }
    }

    private static void fits(String when, DotThresholds x, int many, int least, int greatest) {
        E.due(when + ": unseen(0)", x.unseen(0), many);
        E.due(when + ": unseen(1)", x.unseen(1), least);
        E.due(when + ": unseen(2)", x.unseen(2), greatest);
    }

    private static void unseenOfNothing() {
        E.of(26, "SHADE t (0 .. FREE)");
        fits("one CELL", Due.told("g1 1;d0 0;"), 2, 0, 1);
        fits("one FREE CELL", Due.told("g3 1;s0 0;s2 0;d1 0;"), 2, 0, 1);
        fits("4 by 4", Due.told("d0 0;"), 17, 0, 16);
        fits("the largest", Due.told("g8 8;d0 0;"), 65, 0, 64);
    }

    private static DotThresholds seen(String text, int... lineAndCount) {
        DotThresholds x = Due.told(text);
        for (int i = 0; i + 1 < lineAndCount.length; i += 2) {
            x.sees(lineAndCount[i], lineAndCount[i + 1]);
        }
        return x;
    }

    private static void unseenOfNone() {
        E.of(26, "UNSEEN: SHADES by which all that was SEEN is so.");
        fits("more than the line has", seen("g4 1;d0 0;", 0, 5), 0, NONE, NONE);
        fits("8 of one CELL", seen("g1 1;d0 0;", 0, 8), 0, NONE, NONE);
        fits("1 and 2 of the same line", seen("g4 1;d0 0;", 0, 1, 0, 2), 0, NONE, NONE);
        fits("a line without a FREE CELL", seen("g1 2;s0 0;d0 1;", 0, 1), 0, NONE, NONE);
        fits("a line without a FREE CELL has none", seen("g1 2;s0 0;d0 1;", 0, 0), 2, 0, 1);
        // the last one of six counts too
        fits("five of one kind, one of another", seen("g4 1;d0 0;", 0, 1, 0, 1, 0, 1, 0, 1, 0, 1, 0, 2), 0, NONE, NONE);
        fits("six of one kind", seen("g4 1;d0 0;", 0, 1, 0, 1, 0, 1, 0, 1, 0, 1, 0, 1), 1, 1, 1);
    }

    private static void unseenAtBothEnds() {
        E.of(26, "UNSEEN: how many SHADES (what = 0), the least (1), the greatest (2)");
        // CELLS by RANKS: 0, 2, 1, 3
        fits("SHADE 0", seen("g4 1;d0 0;", 0, 0), 1, 0, 0);
        fits("SHADE FREE", seen("g4 1;d0 0;", 0, 4), 1, 4, 4);
        fits("not the last CELL", seen("g4 1;d0 0;", 11, 0), 4, 0, 3);
        fits("the last CELL", seen("g4 1;d0 0;", 11, 1), 1, 4, 4);
        fits("the first CELL", seen("g4 1;d0 0;", 8, 1), 4, 1, 4);
        fits("not the first CELL", seen("g4 1;d0 0;", 8, 0), 1, 0, 0);
        fits("all of the largest", seen("g8 8;d0 0;", 7, 8, 15, 8, 0, 8, 8, 8), 1, 64, 64);
    }

    private static void unseenByLinesAndColumns() {
        E.of(26, "column k (8 and 0 .. WIDTH less 1), of an unknown SHADE has n CELLS of it");
        // CELLS by RANKS: 0, 3, 1, 2
        fits("line 0 has 1", seen("g2 2;d0 0;", 0, 1), 2, 1, 2);
        fits("column 0 has 1", seen("g2 2;d0 0;", 8, 1), 3, 1, 3);
        fits("line 1 has 0", seen("g2 2;d0 0;", 1, 0), 2, 0, 1);
        fits("column 1 has 1", seen("g2 2;d0 0;", 9, 1), 1, 2, 2);
        fits("line 0 has 2, column 0 has 1", seen("g2 2;d0 0;", 0, 2, 8, 1), 1, 3, 3);
        E.of(26, "(As DOTS are NOW; nothing is changed.)");
        DotThresholds x = seen("g2 2;d0 0;", 0, 0);
        fits("now", x, 1, 0, 0);
        x.moves(0, 2);
        fits("then", x, 2, 0, 1);
        E.asks("unseen(0)", y -> y.unseen(0), Starts.WITH_DOTS);
    }
}
