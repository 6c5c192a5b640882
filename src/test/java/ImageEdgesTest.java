/** Promises 27 to 29 at their edges: keep, back, count. */
public final class ImageEdgesTest {
    private static final Edges E = new Edges("ImageEdgesTest");

    public static void main(String[] args) {
        keepRefused();
        keepOfNoneAndAll();
        keepChangesNothingElse();
        backRefused();
        backOfNoneKept();
        backOfNoneAndAll();
        backLetsNothingBeUndone();
        backChangesNothingElse();
        countRefused();
        countAtBounds();
        E.end(27, 29);
    }

    // ---- promise 27

    private static void keepRefused() {
        E.of(27, "An IMAGE is kept: DOTS. BAD.");
        E.badBeyond("keep", 0, 1, DotThresholds::keep, Starts.EACH);
    }

    private static void keepOfNoneAndAll() {
        E.of(27, "An IMAGE is kept: DOTS.");
        E.due("no DOT", Starts.NO_DOT.made().keep(0), 0);
        E.due("a new object", Starts.NEW.made().keep(1), 0);
        E.due("all FREE CELLS", Starts.ALL_DOTS.made().keep(0), 5);
        E.due("nothing FREE", Due.told("g1 1;s0 0;").keep(0), 0);
        DotThresholds x = Due.told("g8 8;");
        for (int c = 0; c < 64; c++) {
            x.flips(c % 8, c / 8);
        }
        E.due("all 64", x.keep(1), 64);
        x.flips(7, 7);
        E.due("kept anew", x.keep(1), 63);
        x.flips(0, 0);
        E.due("the latest is kept", x.back(1), 63);
        E.due("cell(7, 7)", x.cell(7, 7), 0);
        E.due("cell(0, 0)", x.cell(0, 0), 1);
    }

    private static void keepChangesNothingElse() {
        E.of(27, "IMAGES 0, 1 keep DOTS; nothing else");
        for (Starts.Start start : Starts.EACH) {
            Starts.Start kept = () -> {
                DotThresholds x = start.made();
                x.keep(0);
                x.keep(1);
                return x;
            };
            E.asks("keep(0) of what it has", x -> x.keep(0), kept);
            E.asks("keep(1) of what it has", x -> x.keep(1), kept);
        }
        DotThresholds x = Starts.BUSY.made();
        int known = x.count(11);
        x.keep(0);
        E.due("may be UNDONE as before", x.count(11), known);
        E.due("SEEN as before", x.count(9), 2);
        E.due("letters as before", x.count(10), 10);
        E.shows("DOTS as before", x, "o../.xo/");
        E.due("the other one as before", x.back(1), 3);
    }

    // ---- promise 28

    private static void backRefused() {
        E.of(28, "DOTS are as an IMAGE has them: how many. BAD");
        E.badBeyond("back", 0, 1, DotThresholds::back, Starts.EACH);
        E.of(28, "STATE: none was kept.");
        E.state("back(0)", x -> x.back(0), Starts.NEW);
        E.state("back(1)", x -> x.back(1), Starts.NEW);
        E.state("back(1), the other one was", x -> x.back(1), () -> kept(0));
        E.state("back(0), the other one was", x -> x.back(0), () -> kept(1));
    }

    private static DotThresholds kept(int image) {
        DotThresholds x = Due.told("g3 2;d0 0;");
        x.keep(image);
        x.flips(1, 0);
        return x;
    }

    private static void backOfNoneKept() {
        E.of(28, "IMAGES are gone");
        DotThresholds x = Starts.BUSY.made();
        E.due("grid()", x.grid(), 2);
        E.due("read anew: back(0)", x.back(0), Due.STATE);
        E.due("read anew: back(1)", x.back(1), Due.STATE);
        x = Starts.BUSY.made();
        x.type('x');
        E.due("grid() with a FAULT", x.grid(), -20);
        E.due("refused: back(0)", x.back(0), 1);
        E.due("refused: back(1)", x.back(1), 3);
    }

    private static void backOfNoneAndAll() {
        E.of(28, "DOTS are as an IMAGE has them: how many.");
        DotThresholds x = Starts.NO_DOT.made();
        x.keep(0);
        x.flips(2, 0);
        E.due("an IMAGE of no DOT", x.back(0), 0);
        E.shows("an IMAGE of no DOT", x, ".../.x./");
        E.due("rank(0, 0)", x.rank(0, 0), Due.STATE);
        x = Starts.ALL_DOTS.made();
        x.keep(0);
        x.flips(0, 0);
        E.due("an IMAGE of all", x.back(0), 5);
        E.shows("an IMAGE of all", x, "ooo/oxo/");
        E.due("once more", x.back(0), 5);
        E.shows("once more", x, "ooo/oxo/");
        E.due("held(0, 0)", x.held(0, 0), Starts.ALL_DOTS.made().held(0, 0));
    }

    private static void backLetsNothingBeUndone() {
        E.of(28, "nothing can be UNDONE behind back()");
        for (Starts.Start start : Starts.TOLD) {
            DotThresholds x = start.made();
            x.back(0);
            E.due("may be UNDONE", x.count(11), 0);
            E.due("undo()", x.undo(), Due.STATE);
            E.shows("undo() refused", x, "o../.x./");
            x.flips(1, 0);
            E.due("undo() of one behind it", x.undo(), 0);
            E.shows("undo() of one behind it", x, "o../.x./");
        }
        DotThresholds x = kept(0);
        E.due("back() refused", x.back(1), Due.STATE);
        E.due("refused, it may be UNDONE", x.undo(), 0);
    }

    private static void backChangesNothingElse() {
        E.of(28, "IMAGES 0, 1 keep DOTS; nothing else");
        DotThresholds x = Starts.BUSY.made();
        x.keep(0);
        x.flips(1, 0);
        x.back(0);
        DotThresholds other = Starts.BUSY.made();
        other.keep(0);
        other.back(0);
        E.alike("back() with DOTS in between", x, other);
        x = Starts.BUSY.made();
        x.back(1);
        E.due("SEEN", x.count(9), 2);
        E.due("letters", x.count(10), 10);
        x = Due.told("g2 1;d0 0;");
        x.keep(0);
        x.paints(64, 0, 0);
        x.back(0);
        E.due("the PICTURE stays", x.ink(1, 0), 1);
    }

    // ---- promise 29

    private static void countRefused() {
        E.of(29, "10 letters of THE TEXT, 11 how many may be UNDONE. BAD.");
        E.badBeyond("count", 0, 11, DotThresholds::count, Starts.EACH);
    }

    private static void counts(String when, DotThresholds x, int... want) {
        for (int what = 0; what < want.length; what++) {
            E.due(when + ": count(" + what + ")", x.count(what), want[what]);
        }
    }

    private static void countAtBounds() {
        E.of(29, "0 WIDTH, 1 HEIGHT, 2 FREE, 3 DOTS, 4 KERNEL, 5 POWER, 6 FALL, 7 AX, 8 AY, 9 SEEN");
        counts("new", Starts.NEW.made(), 4, 4, 16, 0, 0, 100, 1, 1, 1, 0, 0, 0);
        counts("least", Due.told("g1 1;k0 1 1;a1 1;s0 0;"), 1, 1, 0, 0, 0, 1, 1, 1, 1, 0, 0, 0);
        counts("most", Due.told("g8 8;k2 999 99;a4 4;"), 8, 8, 64, 0, 2, 999, 99, 4, 4, 0, 0, 0);
        counts("one of them larger", Due.told("g7 3;k1 2 9;a2 3;d6 2;s0 0;"), 7, 3, 20, 1, 1, 2, 9, 2, 3, 0, 0, 0);
        counts("busy", Starts.BUSY.made(), 3, 2, 5, 2, 1, 60, 9, 1, 2, 2, 10, 4);
        counts("no DOT", Starts.NO_DOT.made(), 3, 2, 5, 0, 1, 60, 9, 1, 2, 2, 10, 6);
        counts("all DOTS", Starts.ALL_DOTS.made(), 3, 2, 5, 5, 1, 60, 9, 1, 2, 2, 10, 7);
        counts("full", Starts.FULL.made(), 3, 2, 5, 3, 1, 60, 9, 1, 2, 6, 150, 10);
    }
}
