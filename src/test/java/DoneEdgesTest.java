/** Promises 7 to 10 at their edges: flips, rests, moves, undo. */
public final class DoneEdgesTest {
    private static final Edges E = new Edges("DoneEdgesTest");

    public static void main(String[] args) {
        flipsRefused();
        flipsOfFewCells();
        flipsUndone();
        restsRefused();
        restsToTheSameCell();
        restsAsManyAsTold();
        restsForLong();
        restsOfSeveral();
        movesRefused();
        movesOfFewCells();
        undoOfNone();
        undoOfTen();
        undoOfWhatCounts();
        undoPutsAllBack();
        E.end(7, 10);
    }

    // ---- promise 7

    private static void flipsRefused() {
        E.of(7, "FLIPPED: whether it has a DOT then (1, 0). BAD");
        E.badBeyond("flips(n, 0)", 0, 2, (x, n) -> x.flips(n, 0), Starts.TOLD);
        E.badBeyond("flips(n, 1)", 0, 2, (x, n) -> x.flips(n, 1), Starts.TOLD);
        E.badBeyond("flips(0, n)", 0, 1, (x, n) -> x.flips(0, n), Starts.TOLD);
        E.badBeyond("flips(2, n)", 0, 1, (x, n) -> x.flips(2, n), Starts.TOLD);
        E.badBeyond("flips(n, n)", 0, 2, (x, n) -> x.flips(n, n), Starts.TOLD);
        // behind the SHUT CELL's line and column
        E.bad("flips(1, 2)", x -> x.flips(1, 2), Starts.TOLD);
        E.bad("flips(4, 0), the SHUT CELL's number", x -> x.flips(4, 0), Starts.TOLD);
        E.bad("flips(4, 0)", x -> x.flips(4, 0), Starts.NEW);
        E.bad("flips(0, 4)", x -> x.flips(0, 4), Starts.NEW);
        E.of(7, "STATE: it is SHUT.");
        E.state("flips(1, 1)", x -> x.flips(1, 1), Starts.TOLD);
        E.due("nothing FREE", Due.told("g1 1;s0 0;").flips(0, 0), Due.STATE);
    }

    private static void flipsOfFewCells() {
        E.of(7, "FLIPPED: a CELL has a DOT, or none.");
        DotThresholds x = Due.told("g1 1;");
        E.due("the only CELL", x.flips(0, 0), 1);
        E.due("DOTS", x.count(3), 1);
        E.due("the only CELL again", x.flips(0, 0), 0);
        E.due("DOTS again", x.count(3), 0);
        E.due("rank(0, 0), the last DOT is gone", x.rank(0, 0), Due.STATE);
        x = Due.told("g8 8;");
        E.due("the first CELL of the largest", x.flips(0, 0), 1);
        E.due("the last CELL of the largest", x.flips(7, 7), 1);
        E.due("DOTS of the largest", x.count(3), 2);
        E.due("cell(7, 7)", x.cell(7, 7), 1);
        E.due("cell(0, 0)", x.cell(0, 0), 1);
        E.due("cell(6, 7)", x.cell(6, 7), 0);
    }

    private static void flipsUndone() {
        E.of(7, "FLIPPED: a CELL has a DOT, or none.");
        DotThresholds x = Starts.BUSY.made();
        E.due("flips(1, 0)", x.flips(1, 0), 1);
        E.due("flips(1, 0) again", x.flips(1, 0), 0);
        x.undo();
        x.undo();
        E.alike("flipped twice, undone twice", x, Starts.BUSY.made());
    }

    // ---- promise 8

    private static void restsRefused() {
        E.of(8, "RESTED, n STEPS at most (1 .. 64): in how many a DOT came to another CELL. BAD");
        E.badBeyond("rests", 1, 64, DotThresholds::rests, Starts.EACH);
        E.of(8, "STATE: no DOT.");
        E.state("rests(1)", x -> x.rests(1), Starts.NO_DOT, Starts.NEW);
        E.state("rests(64)", x -> x.rests(64), Starts.NO_DOT, Starts.NEW);
        E.due("nothing FREE", Due.told("g1 1;s0 0;").rests(1), Due.STATE);
    }

    private static void restsToTheSameCell() {
        E.of(8, "the TIGHTEST DOT is taken away, then one is set into the VOID (that may be the same CELL)");
        String[] texts = {"g1 1;d0 0;", "g2 1;d0 0;d1 0;", "g2 1;s0 0;d1 0;", "g2 1;d0 0;", "g2 2;d0 0;d1 1;"};
        for (String text : texts) {
            DotThresholds x = Due.told(text);
            String before = Due.shown(x);
            E.due(text + " rests(1)", x.rests(1), 0);
            E.due(text + " rests(64)", x.rests(64), 0);
            E.shows(text + " as before", x, before);
            E.due(text + " may be UNDONE", x.count(11), 2);
        }
        E.due("all FREE CELLS have DOTS", Starts.ALL_DOTS.made().rests(64), 0);
        // all CELLS are HELD alike without it, so the lowest is the VOID
        DotThresholds x = Due.told("g2 1;d1 0;");
        E.due("one DOT, a lower CELL", x.rests(64), 1);
        E.shows("one DOT, a lower CELL", x, "o./");
    }

    /** 0 goes to 8, then 2 to 10, then 1 would come to the same CELL. */
    private static void restsAsManyAsTold() {
        E.of(8, "STEPS of this, till one comes to the same CELL, or as many as are told.");
        String[] shown = {"oooo/..../..../..../", ".ooo/..../o.../..../", ".o.o/..../o.o./..../",
            ".o.o/..../o.o./..../"};
        for (int n = 1; n <= 3; n++) {
            DotThresholds x = Due.told("d0 0;d1 0;d2 0;d3 0;");
            E.due("rests(" + n + ")", x.rests(n), Math.min(n, 2));
            E.shows("rests(" + n + ")", x, shown[n]);
            E.due("rests(" + n + ") may be UNDONE once", x.count(11), 1);
            x.undo();
            E.shows("rests(" + n + ") undone", x, shown[0]);
        }
        restsStepByStep();
    }

    /** n STEPS at once are n times one STEP, till there is no more to do. */
    private static void restsStepByStep() {
        E.of(8, "or as many as are told");
        int steps = crowd().rests(64);
        E.due("it takes more than ten", steps > 10 ? 1 : 0, 1);
        int[] some = {1, 2, steps - 1, steps, steps + 1, 64};
        for (int n : some) {
            DotThresholds many = crowd();
            E.due("rests(" + n + ")", many.rests(n), Math.min(n, steps));
            DotThresholds one = crowd();
            int moved = 0;
            for (int i = 0; i < n; i++) {
                moved += one.rests(1);
            }
            E.due(n + " times rests(1)", moved, Math.min(n, steps));
            E.shows("rests(" + n + ")", many, Due.shown(one));
        }
    }

    /** The longest that a search found; how many STEPS and where they end was told by two other programs. */
    private static void restsForLong() {
        E.of(8, "RESTED, n STEPS at most (1 .. 64)");
        String first = "..xxx.../xx..oxxx/.xo..xoo/.oooo.oo/oo.ooooo/ooo.ooo./o.....oo/.o....../";
        String last = "..xxx.../xx...xxx/oxoooxoo/oooooooo/......../......../.oo..ooo/oooooooo/";
        for (int n = 46; n <= 64; n++) {
            DotThresholds x = shownAs("k1 503 7;a1 4;", first);
            E.due("rests(" + n + ") of 47", x.rests(n), Math.min(n, 47));
            E.due("rests(64) behind rests(" + n + ")", x.rests(64), n == 46 ? 1 : 0);
            E.shows("rests(64) behind rests(" + n + ")", x, last);
            x.undo();
            x.undo();
            E.shows("both undone", x, first);
        }
    }

    /** 8 by 8 CELLS as Due.shown() shows them; DOTS are set by hand, since a text has no room for so many. */
    private static DotThresholds shownAs(String items, String shown) {
        StringBuilder text = new StringBuilder("g8 8;").append(items);
        String cells = shown.replace("/", "");
        for (int c = 0; c < 64; c++) {
            if (cells.charAt(c) == 'x') {
                text.append('s').append(c % 8).append(' ').append(c / 8).append(';');
            }
        }
        DotThresholds x = Due.told(text.toString());
        for (int c = 0; c < 64; c++) {
            if (cells.charAt(c) == 'o') {
                x.flips(c % 8, c / 8);
            }
        }
        return x;
    }

    private static DotThresholds crowd() {
        DotThresholds x = Due.told("g8 8;k1 999 57;a4 1;");
        for (int c = 0; c < 35; c++) {
            x.flips(c % 8, c / 8);
        }
        return x;
    }

    private static void restsOfSeveral() {
        E.of(8, "TIGHTEST: the DOT that is HELD most, of several the lowest CELL.");
        DotThresholds x = Due.told("g4 1;d1 0;d2 0;");
        E.due("rests(1)", x.rests(1), 1);
        E.shows("1 is taken away, not 2", x, "o.o./");
        E.of(8, "VOID: the FREE CELL without a DOT that is HELD least, of several the lowest.");
        x = Due.told("g5 1;d0 0;d1 0;");
        E.due("rests(1)", x.rests(1), 1);
        E.shows("0 goes to 3, not to 4", x, ".o.o./");
        x = Due.told("g4 1;s0 0;d1 0;d2 0;");
        E.due("rests(1), not to the SHUT CELL", x.rests(1), 0);
        E.shows("the SHUT CELL", x, "xoo./");
    }

    // ---- promise 9

    private static void movesRefused() {
        E.of(9, "MOVED, by numbers of CELLS: by how much ENERGY is more then. BAD");
        E.badBeyond("moves(n, 1)", 0, 5, (x, n) -> x.moves(n, 1), Starts.TOLD);
        E.badBeyond("moves(0, n)", 0, 5, (x, n) -> x.moves(0, n), Starts.TOLD);
        E.badBeyond("moves(n, n)", 0, 5, (x, n) -> x.moves(n, n), Starts.TOLD);
        E.bad("moves(16, 0)", x -> x.moves(16, 0), Starts.NEW);
        E.bad("moves(0, 16)", x -> x.moves(0, 16), Starts.NEW);
        E.of(9, "STATE: there is no DOT, or the other one is not FREE, has one.");
        E.state("no DOT there", x -> x.moves(1, 3), Starts.BUSY, Starts.NO_DOT, Starts.NEW);
        E.state("no DOT, a SHUT CELL", x -> x.moves(4, 1), Starts.TOLD);
        E.state("to a SHUT CELL", x -> x.moves(0, 4), Starts.TOLD);
        E.state("to a CELL that has one", x -> x.moves(0, 5), Starts.WITH_DOTS);
        E.state("to the same CELL", x -> x.moves(0, 0), Starts.WITH_DOTS);
        E.state("no DOT, the same CELL", x -> x.moves(1, 1), Starts.BUSY, Starts.NO_DOT, Starts.NEW);
        E.state("from the SHUT CELL to itself", x -> x.moves(4, 4), Starts.TOLD);
        E.of(9, "the first of these: BAD (a number is not as told, or there is no such thing), STATE");
        E.badBeyond("no DOT, moves(1, n)", 0, 5, (x, n) -> x.moves(1, n), Starts.BUSY, Starts.NO_DOT);
        E.badBeyond("SHUT, moves(n, 4)", 0, 5, (x, n) -> x.moves(n, 4), Starts.TOLD);
    }

    private static void movesOfFewCells() {
        E.of(9, "MOVED: a DOT goes to a FREE CELL without one.");
        DotThresholds x = Due.told("g2 1;d0 0;");
        E.due("the only DOT", x.moves(0, 1), 0);
        E.shows("the only DOT", x, ".o/");
        x = Due.told("g8 8;d0 0;");
        E.due("the first to the last", x.moves(0, 63), 0);
        E.due("cell(7, 7)", x.cell(7, 7), 1);
        E.due("the last to the first", x.moves(63, 0), 0);
        E.due("cell(0, 0)", x.cell(0, 0), 1);
        E.of(9, "by how much ENERGY is more then");
        x = Due.told("g6 1;d0 0;d2 0;");
        E.due("more, round the edge", x.moves(2, 5), 50 - 20);
        E.due("as much", x.moves(5, 1), 0);
        E.due("less", x.moves(1, 3), 10 - 50);
        // the DOT itself no longer holds
        x = Due.told("g3 1;d0 0;d1 0;");
        E.due("to the CELL beside it", x.moves(1, 2), 0);
        E.due("ENERGY", x.energy(), 50);
    }

    // ---- promise 10

    private static void undoOfNone() {
        E.of(10, "UNDONE: how many more may be. STATE: none.");
        E.state("undo() of a new object", DotThresholds::undo, Starts.NEW);
        Starts.Start used = () -> {
            DotThresholds x = Starts.FULL.made();
            while (x.count(11) > 0) {
                x.undo();
            }
            return x;
        };
        E.state("undo() of a used one", DotThresholds::undo, used);
        E.state("undo() behind grid()", DotThresholds::undo, () -> {
            DotThresholds x = Starts.BUSY.made();
            x.grid();
            return x;
        });
        E.of(10, "nothing can be UNDONE behind back()");
        E.state("undo() behind back()", DotThresholds::undo, () -> {
            DotThresholds x = Starts.BUSY.made();
            x.back(0);
            return x;
        });
    }

    private static void undoOfTen() {
        E.of(10, "(10 are known, older ones are lost)");
        for (int done = 1; done <= 14; done++) {
            DotThresholds x = Due.told("g8 2;");
            for (int c = 0; c < done; c++) {
                x.flips(c % 8, c / 8);
            }
            int known = Math.min(done, 10);
            E.due(done + " done, may be UNDONE", x.count(11), known);
            for (int left = known - 1; left >= 0; left--) {
                E.due(done + " done, undo()", x.undo(), left);
                E.due(done + " done, " + left + " left, DOTS", x.count(3), done - known + left);
            }
            E.due(done + " done, undo() of no more", x.undo(), Due.STATE);
            E.due(done + " done, DOTS at last", x.count(3), done - known);
            E.due(done + " done, the lost ones' last CELL", x.cell(3, 0), done - known > 3 ? 1 : 0);
        }
    }

    private static void undoOfWhatCounts() {
        E.of(10, "UNDONE: the latest flips(), rests(), moves() that was not refused");
        DotThresholds x = Starts.BUSY.made();
        int known = x.count(11);
        x.flips(1, 1);
        x.flips(3, 0);
        x.rests(0);
        x.moves(0, 0);
        x.moves(0, 4);
        x.moves(0, 6);
        E.due("refused ones are not known", x.count(11), known);
        x.keep(0);
        x.paints(1, 1, 1);
        x.sees(0, 0);
        x.forget();
        x.type('x');
        x.grid();
        x.clear();
        x.better(1);
        x.finest(1);
        E.due("others are not known", x.count(11), known);
        x.rests(64);
        int rested = x.count(11);
        E.due("rests() is known once", rested, known + 1);
        x.rests(1);
        E.due("rests() to the same CELL is known", x.count(11), known + 2);
        x.undo();
        E.due("undo() is not known itself", x.count(11), known + 1);
        x.flips(1, 0);
        E.due("a new one behind undo()", x.count(11), known + 2);
        E.due("undo()", x.undo(), known + 1);
    }

    private static void undoPutsAllBack() {
        E.of(10, "UNDONE: how many more may be.");
        Starts.Start[] starts = {Starts.BUSY, Starts.NO_DOT, Starts.ALL_DOTS};
        for (Starts.Start start : starts) {
            DotThresholds x = start.made();
            int known = x.count(11);
            x.flips(0, 1);
            E.due("undo() of flips", x.undo(), known);
            E.alike("flips undone", x, start.made());
        }
        DotThresholds x = Starts.BUSY.made();
        x.rests(64);
        x.undo();
        E.alike("rests undone", x, Starts.BUSY.made());
        x = Starts.BUSY.made();
        x.moves(5, 1);
        x.undo();
        E.alike("moves undone", x, Starts.BUSY.made());
    }
}
