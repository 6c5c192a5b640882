/** Promises 11 to 15 at their edges: held, extreme, energy, better, shifts. */
public final class HoldEdgesTest {
    private static final Edges E = new Edges("HoldEdgesTest");

    public static void main(String[] args) {
        heldRefused();
        heldOfNoneAndAll();
        extremeRefused();
        tightest();
        largestVoid();
        energyOfFew();
        energyOfAll();
        betterRefused();
        betterOfNotBoth();
        betterOfSeveral();
        shiftsOfNoneAndAll();
        shiftsWrapped();
        nothingIsChanged();
        E.end(11, 15);
    }

    // ---- promise 11

    private static void heldRefused() {
        E.of(11, "HELD. BAD.");
        E.badBeyond("held(n, 0)", 0, 2, (x, n) -> x.held(n, 0), Starts.TOLD);
        E.badBeyond("held(n, 1)", 0, 2, (x, n) -> x.held(n, 1), Starts.TOLD);
        E.badBeyond("held(0, n)", 0, 1, (x, n) -> x.held(0, n), Starts.TOLD);
        E.badBeyond("held(2, n)", 0, 1, (x, n) -> x.held(2, n), Starts.TOLD);
        E.badBeyond("held(n, n)", 0, 2, (x, n) -> x.held(n, n), Starts.TOLD);
        E.bad("held(4, 0)", x -> x.held(4, 0), Starts.NEW);
        E.bad("held(0, 4)", x -> x.held(0, 4), Starts.NEW);
    }

    private static void heldOfNoneAndAll() {
        E.of(11, "HELD of a CELL: WEIGHTS of its DISTANCES from all DOTS together");
        E.leavesAll("held(0, 0), no DOT", x -> x.held(0, 0), 0, Starts.NO_DOT, Starts.NEW);
        E.due("a SHUT CELL", Due.told("g3 1;s1 0;d0 0;").held(1, 0), 50);
        E.due("round both edges", Due.told("g8 8;d7 7;").held(0, 0), 33);
        int all = 0;
        DotThresholds near = Due.told("g8 8;k0 999 1;");
        for (int c = 0; c < 64; c++) {
            all += near.near(0, c, 1);
        }
        E.due("all 64 have DOTS, held(0, 0)", allDots("k0 999 1;").held(0, 0), all);
        E.due("all 64 have DOTS, held(7, 7)", allDots("k0 999 1;").held(7, 7), all);
        E.of(11, "(a DOT's own, of DISTANCE 0, too)");
        E.due("the only DOT of the only CELL", Due.told("g1 1;k0 999 1;d0 0;").held(0, 0), 999);
        E.due("KERNEL 2", Due.told("k2 1 1;d0 0;d1 0;").held(0, 0), 1);
        DotThresholds x = Due.told("d0 0;");
        x.flips(0, 0);
        E.due("flipped away", x.held(0, 0), 0);
    }

    private static DotThresholds allDots(String kernel) {
        DotThresholds x = Due.told("g8 8;" + kernel);
        for (int c = 0; c < 64; c++) {
            x.flips(c % 8, c / 8);
        }
        return x;
    }

    // ---- promise 12

    private static void extremeRefused() {
        E.of(12, "TIGHTEST (what = 0), VOID (1): the CELL's number; NONE. BAD.");
        E.badBeyond("extreme", 0, 1, DotThresholds::extreme, Starts.EACH);
        E.leavesAll("extreme(0), no DOT", x -> x.extreme(0), Due.NONE, Starts.NO_DOT, Starts.NEW);
        E.leavesAll("extreme(1), all have one", x -> x.extreme(1), Due.NONE, Starts.ALL_DOTS);
        E.leavesAll("extreme(1), no DOT", x -> x.extreme(1), 0, Starts.NO_DOT, Starts.NEW);
        DotThresholds x = Due.told("g1 1;s0 0;");
        E.due("nothing FREE, extreme(0)", x.extreme(0), Due.NONE);
        E.due("nothing FREE, extreme(1)", x.extreme(1), Due.NONE);
        E.due("all 64 have DOTS, extreme(1)", allDots("").extreme(1), Due.NONE);
        E.due("all 64 have DOTS, extreme(0)", allDots("").extreme(0), 0);
    }

    private static void tightest() {
        E.of(12, "TIGHTEST: the DOT that is HELD most, of several the lowest CELL.");
        E.due("the only one, the last CELL", Due.told("g8 8;d7 7;").extreme(0), 63);
        E.due("of two", Due.told("d3 3;d1 1;").extreme(0), 5);
        E.due("of three in a line", Due.told("g6 1;d1 0;d2 0;d3 0;").extreme(0), 2);
        E.due("of three round the edge", Due.told("g6 1;d0 0;d1 0;d5 0;").extreme(0), 0);
        // each DOT is HELD by 9 and 5, CELLS 1 and 3 by 8 and 8
        E.due("a DOT, though a CELL is HELD more", Due.told("g4 1;k1 9 1;d0 0;d2 0;").extreme(0), 0);
    }

    private static void largestVoid() {
        E.of(12, "VOID: the FREE CELL without a DOT that is HELD least, of several the lowest.");
        E.due("of two", Due.told("g5 1;d0 0;").extreme(1), 2);
        E.due("of two, the lowest is SHUT", Due.told("g5 1;s2 0;d0 0;").extreme(1), 3);
        E.due("the last CELL alone", Due.told("g2 1;d0 0;").extreme(1), 1);
        E.due("no DOT, the lowest FREE one", Due.told("g2 2;s0 0;s1 0;").extreme(1), 2);
        E.due("HELD by nothing, beside the DOT", Due.told("k2 1 1;d0 0;").extreme(1), 1);
        // each DOT is HELD by 9 and 5, CELLS 1 and 3 by 8 and 8
        DotThresholds x = Due.told("g4 1;k1 9 1;d0 0;d2 0;");
        E.due("no DOT, though it is HELD less", x.extreme(1), 1);
        x.flips(1, 0);
        E.due("the only CELL without one", x.extreme(1), 3);
    }

    // ---- promise 13

    private static void energyOfFew() {
        E.of(13, "ENERGY: WEIGHTS of all pairs of unlike DOTS.");
        E.leavesAll("no DOT", DotThresholds::energy, 0, Starts.NO_DOT, Starts.NEW);
        E.due("one DOT", Due.told("k0 999 1;d3 3;").energy(), 0);
        E.due("one DOT, one CELL", Due.told("g1 1;d0 0;").energy(), 0);
        E.due("two DOTS, once", Due.told("g2 1;d0 0;d1 0;").energy(), 50);
        E.due("two DOTS round the edge", Due.told("g8 1;d0 0;d7 0;").energy(), 50);
        E.due("an odd WEIGHT", Due.told("k0 3 1;d0 0;d1 0;d2 1;").energy(), 1 + 1 + 0);
        E.due("WEIGHTS of 0", Due.told("k2 1 1;d0 0;d1 0;").energy(), 0);
        E.due("SHUT CELLS don't count", Due.told("g3 1;s0 0;s1 0;d2 0;").energy(), 0);
        DotThresholds x = Due.told("g2 1;d0 0;d1 0;");
        x.flips(0, 0);
        E.due("one is flipped away", x.energy(), 0);
    }

    private static void energyOfAll() {
        E.of(13, "ENERGY: WEIGHTS of all pairs of unlike DOTS.");
        String[] kernels = {"k0 999 1;", "k1 999 1;", "k2 999 1;"};
        for (String kernel : kernels) {
            DotThresholds near = Due.told("g8 8;" + kernel);
            int others = 0;
            for (int c = 1; c < 64; c++) {
                others += near.near(0, c, 1);
            }
            E.due(kernel + " all 64 have DOTS", allDots(kernel).energy(), 64 * others / 2);
        }
    }

    // ---- promise 14

    private static void betterRefused() {
        E.of(14, "BETTER: how much (what = 0; it may be below 0), the DOT (1), the CELL (2)");
        E.badBeyond("better", 0, 2, DotThresholds::better, Starts.EACH);
    }

    private static void betterOfNotBoth() {
        E.of(14, "NONE: there are not both (what = 0: 0). BAD.");
        Starts.Start[] starts = {Starts.NEW, Starts.NO_DOT, Starts.ALL_DOTS, () -> Due.told("g1 1;d0 0;"),
            () -> Due.told("g1 1;"), () -> Due.told("g1 1;s0 0;"), () -> Due.told("g2 1;s0 0;d1 0;")};
        E.leavesAll("better(0)", x -> x.better(0), 0, starts);
        E.leavesAll("better(1)", x -> x.better(1), Due.NONE, starts);
        E.leavesAll("better(2)", x -> x.better(2), Due.NONE, starts);
        E.due("all 64 have DOTS, better(0)", allDots("").better(0), 0);
        E.due("all 64 have DOTS, better(1)", allDots("").better(1), Due.NONE);
    }

    private static void betters(String text, int much, int dot, int cell) {
        DotThresholds x = Due.told(text);
        E.due(text + " better(0)", x.better(0), much);
        E.due(text + " better(1)", x.better(1), dot);
        E.due(text + " better(2)", x.better(2), cell);
        E.due(text + " is as moves() says", x.moves(dot, cell), -much);
    }

    private static void betterOfSeveral() {
        E.of(14, "it may be below 0");
        betters("d0 0;d2 2;", 11 - 16, 0, 1);
        betters("g4 1;d0 0;d2 0;", 20 - 50, 0, 1);
        E.of(14, "by how much ENERGY is less, if it is MOVED there: the most");
        betters("g2 1;d1 0;", 0, 1, 0);
        betters("g8 1;d0 0;d7 0;", 50 - 5, 0, 3);
        betters("g8 8;d0 0;d1 0;", 50 - 3, 0, 29);
        betters("g8 8;d6 7;d7 7;", 50 - 3, 62, 19);
        E.of(14, "of several the lowest DOT, then the lowest CELL");
        betters("g3 1;d2 0;", 0, 2, 0);
        betters("g3 1;s0 0;d2 0;", 0, 2, 1);
        betters("g4 1;d2 0;d3 0;", 50 - 20, 2, 1);
        betters("k2 1 1;d3 3;d1 1;", 0, 5, 0);
        E.of(14, "BETTER: a DOT and a FREE CELL without one");
        betters("g2 2;s0 0;d1 0;d0 1;", 33 - 50, 1, 3);
    }

    // ---- promise 15

    private static void shifts(String text, int want) {
        E.due(text + " shifts()", Due.told(text).shifts(), want);
    }

    private static void shiftsOfNoneAndAll() {
        E.of(15, "SHIFTS: how many there are.");
        shifts("g1 1;", 1);
        shifts("g1 1;d0 0;", 1);
        shifts("g1 1;s0 0;", 1);
        shifts("g8 1;", 8);
        shifts("g1 8;", 8);
        shifts("g8 8;", 64);
        E.due("all 64 have DOTS", allDots("").shifts(), 64);
        shifts("g2 2;s0 0;s1 0;s0 1;s1 1;", 4);
        shifts("g8 8;d7 7;", 1);
        shifts("g8 8;s7 7;", 1);
        E.leavesAll("shifts() by one SHUT CELL", DotThresholds::shifts, 1, Starts.TOLD);
        E.leavesAll("shifts() of a new object", DotThresholds::shifts, 16, Starts.NEW);
    }

    private static void shiftsWrapped() {
        E.of(15, "by which all CELLS may be put on (wrapped)");
        shifts("g4 1;d1 0;d3 0;", 2);
        shifts("g1 4;d0 1;d0 3;", 2);
        shifts("g6 1;d0 0;d5 0;", 1);
        shifts("g6 1;d0 0;d1 0;d3 0;d4 0;", 2);
        shifts("g2 2;d0 0;d1 1;", 2);
        shifts("g3 3;d0 0;d1 1;d2 2;", 3);
        E.of(15, "DOTS lie on DOTS, SHUT CELLS on SHUT ones");
        shifts("g4 1;s0 0;s2 0;d1 0;d3 0;", 2);
        shifts("g4 1;s0 0;d1 0;d3 0;", 1);
        shifts("g4 1;s0 0;s2 0;d1 0;", 1);
        shifts("g2 1;s0 0;d1 0;", 1);
    }

    private static void nothingIsChanged() {
        E.of(14, "(As DOTS are NOW; nothing is changed.)");
        DotThresholds x = Starts.BUSY.made();
        for (int what = 0; what <= 2; what++) {
            x.better(what);
            x.extreme(what);
        }
        x.energy();
        x.shifts();
        x.held(1, 0);
        E.alike("asked for much", x, Starts.BUSY.made());
    }
}
