/** Promises 7 to 10: flips, rests, moves, undo. */
public final class DoneTest {
    private static final Due T = new Due("DoneTest");

    public static void main(String[] args) {
        flips();
        restsAreRefused();
        restsOfOneDot();
        restsOfALine();
        moves();
        undoKnowsTen();
        undoOfEach();
        T.end();
    }

    private static void flips() {
        DotThresholds x = Due.told("s3 3;");
        T.due("flips(0, 0)", x.flips(0, 0), 1);
        T.due("flips(2, 3)", x.flips(2, 3), 1);
        T.shows("flipped", x, "o.../..../..../..ox/");
        T.due("held(1, 0)", x.held(1, 0), 50 + 33);
        T.due("flips(0, 0) again", x.flips(0, 0), 0);
        T.shows("flipped again", x, "..../..../..../..ox/");
        T.due("held(1, 0) again", x.held(1, 0), 33);
        T.due("DOTS", x.count(3), 1);
        T.due("flips(3, 3)", x.flips(3, 3), Due.STATE);
        T.due("flips(4, 0)", x.flips(4, 0), Due.BAD);
        T.due("flips(0, 4)", x.flips(0, 4), Due.BAD);
        T.due("flips(-1, 0)", x.flips(-1, 0), Due.BAD);
        T.due("flips(0, -1)", x.flips(0, -1), Due.BAD);
        T.due("may be UNDONE", x.count(11), 3);
    }

    private static void restsAreRefused() {
        DotThresholds x = new DotThresholds();
        T.due("rests(0), no DOT", x.rests(0), Due.BAD);
        T.due("rests(65), no DOT", x.rests(65), Due.BAD);
        T.due("rests(1), no DOT", x.rests(1), Due.STATE);
        T.due("rests(64), no DOT", x.rests(64), Due.STATE);
        x.flips(1, 1);
        T.due("rests(0)", x.rests(0), Due.BAD);
        T.due("rests(-1)", x.rests(-1), Due.BAD);
        T.due("rests(65)", x.rests(65), Due.BAD);
        T.shows("refused", x, "..../.o../..../..../");
        T.due("may be UNDONE", x.count(11), 1);
    }

    private static void restsOfOneDot() {
        DotThresholds x = Due.told("s0 0;d2 2;");
        T.due("rests(64)", x.rests(64), 1);
        T.shows("rested", x, "xo../..../..../..../");
        T.due("rests(1) again", x.rests(1), 0);
        T.shows("rested again", x, "xo../..../..../..../");
        T.due("may be UNDONE", x.count(11), 2);
    }

    /** 0 goes to 8, then 2 to 10, then 1 rests. */
    private static void restsOfALine() {
        String line = "d0 0;d1 0;d2 0;d3 0;";
        DotThresholds x = Due.told(line);
        T.due("rests(1)", x.rests(1), 1);
        T.shows("one step", x, ".ooo/..../o.../..../");
        T.due("rests(1)", x.rests(1), 1);
        T.shows("two steps", x, ".o.o/..../o.o./..../");
        T.due("rests(1)", x.rests(1), 0);
        T.shows("three steps", x, ".o.o/..../o.o./..../");
        T.due("rests(2)", Due.told(line).rests(2), 2);
        x = Due.told(line);
        T.due("rests(64)", x.rests(64), 2);
        T.shows("64 steps", x, ".o.o/..../o.o./..../");
        T.due("may be UNDONE", x.count(11), 1);
    }

    private static void moves() {
        DotThresholds x = Due.told("s3 3;d0 0;d1 0;");
        T.due("moves(1, 10)", x.moves(1, 10), 11 - 50);
        T.shows("moved", x, "o.../..../..o./...x/");
        T.due("moves(10, 1)", x.moves(10, 1), 50 - 11);
        T.shows("moved back", x, "oo../..../..../...x/");
        T.due("moves(0, 2)", x.moves(0, 2), 0);
        T.due("may be UNDONE", x.count(11), 3);
        T.due("moves(0, 5), no DOT", x.moves(0, 5), Due.STATE);
        T.due("moves(15, 5), SHUT", x.moves(15, 5), Due.STATE);
        T.due("moves(1, 2), a DOT there", x.moves(1, 2), Due.STATE);
        T.due("moves(1, 1), a DOT there", x.moves(1, 1), Due.STATE);
        T.due("moves(1, 15), SHUT", x.moves(1, 15), Due.STATE);
        T.due("moves(-1, 5)", x.moves(-1, 5), Due.BAD);
        T.due("moves(16, 5)", x.moves(16, 5), Due.BAD);
        T.due("moves(0, 16), no DOT either", x.moves(0, 16), Due.BAD);
        T.due("moves(1, -1)", x.moves(1, -1), Due.BAD);
        T.shows("refused", x, ".oo./..../..../...x/");
        T.due("may be UNDONE yet", x.count(11), 3);
    }

    private static void undoKnowsTen() {
        DotThresholds x = new DotThresholds();
        for (int i = 0; i < 12; i++) {
            x.flips(i % 4, i / 4);
        }
        T.due("may be UNDONE", x.count(11), 10);
        for (int left = 9; left >= 0; left--) {
            T.due("undo()", x.undo(), left);
            T.due("DOTS", x.count(3), left + 2);
            T.due("may be UNDONE", x.count(11), left);
        }
        T.shows("all that is known is undone", x, "oo../..../..../..../");
        T.due("undo() of none", x.undo(), Due.STATE);
        T.shows("refused", x, "oo../..../..../..../");
        x.flips(3, 3);
        T.due("undo() of a new one", x.undo(), 0);
        T.shows("the new one is undone", x, "oo../..../..../..../");
    }

    private static void undoOfEach() {
        DotThresholds x = Due.told("d0 0;d1 0;d2 0;d3 0;");
        x.rests(64);
        x.moves(1, 5);
        x.flips(3, 3);
        x.flips(9, 9);
        x.rests(0);
        x.moves(1, 1);
        T.due("undo() of flips", x.undo(), 2);
        T.shows("flips undone", x, "...o/.o../o.o./..../");
        T.due("undo() of moves", x.undo(), 1);
        T.shows("moves undone", x, ".o.o/..../o.o./..../");
        T.due("undo() of rests", x.undo(), 0);
        T.shows("rests undone", x, "oooo/..../..../..../");
        T.due("held(0, 0)", x.held(0, 0), 100 + 50 + 20 + 50);
        T.due("undo() of none", x.undo(), Due.STATE);
    }
}
