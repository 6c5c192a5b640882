/** Promises 1 to 6: a new object, type, clear, grid, cell, near. */
public final class GridTest {
    private static final Due T = new Due("GridTest");

    public static void main(String[] args) {
        aNewObject();
        type();
        clear();
        gridCountsItems();
        gridFindsFaults();
        gridReadsThisTextAlone();
        gridTellsAllAnew();
        gridRefusedChangesNothing();
        cell();
        nearByDistance();
        nearByWeight();
        T.end();
    }

    private static void aNewObject() {
        DotThresholds x = new DotThresholds();
        int[] want = {4, 4, 16, 0, 0, 100, 1, 1, 1, 0, 0, 0};
        for (int what = 0; what < want.length; what++) {
            T.due("new: count(" + what + ")", x.count(what), want[what]);
        }
        T.shows("new:", x, "..../..../..../..../");
        T.due("new: undo()", x.undo(), Due.STATE);
        T.due("new: back(0)", x.back(0), Due.STATE);
        T.due("new: back(1)", x.back(1), Due.STATE);
        T.due("new: near(0, 1, 1)", x.near(0, 1, 1), 50);
        T.due("new: near(0, 5, 1)", x.near(0, 5, 1), 33);
    }

    private static void type() {
        DotThresholds x = new DotThresholds();
        T.due("type(-1)", x.type(-1), Due.BAD);
        T.due("type(256)", x.type(256), Due.BAD);
        T.due("type(min)", x.type(Integer.MIN_VALUE), Due.BAD);
        T.due("type(max)", x.type(Integer.MAX_VALUE), Due.BAD);
        T.due("refused: letters", x.count(10), 0);
        T.due("type(0)", x.type(0), 1);
        T.due("type(255)", x.type(255), 2);
        for (int n = 3; n <= 150; n++) {
            T.due("type(32)", x.type(32), n);
        }
        T.due("type(32), 150 letters", x.type(32), Due.FULL);
        T.due("type(256), 150 letters", x.type(256), Due.BAD);
        T.due("letters", x.count(10), 150);
        T.due("clear()", x.clear(), 150);
        T.due("type(32) again", x.type(32), 1);
    }

    private static void clear() {
        DotThresholds x = new DotThresholds();
        T.due("clear() of none", x.clear(), 0);
        Due.types(x, "d1 1;x");
        T.due("clear()", x.clear(), 6);
        T.due("clear() again", x.clear(), 0);
        T.due("letters", x.count(10), 0);
        Due.types(x, "d2 2;");
        T.due("grid() behind clear()", x.grid(), 1);
        T.shows("behind clear()", x, "..../..../..o./..../");
    }

    private static void reads(String text, int want) {
        T.due("grid() of '" + text + "'", Due.reads(new DotThresholds(), text), want);
    }

    private static void gridCountsItems() {
        reads("", 0);
        reads("   ", 0);
        reads("g1 1;", 1);
        reads("  g  8   8 ;  ", 1);
        reads("g8 8;k1 999 99;a4 4;s0 0;d7 7;", 5);
        reads("k0 1 1;k2 999 99;a1 1;a4 4;", 4);
        reads("k 1 2 3 ; d 0 0 ; s 1 0 ;", 3);
        StringBuilder all = new StringBuilder();
        for (int c = 0; c < 25; c++) {
            all.append("d").append(c % 5).append(' ').append(c / 5).append(";");
        }
        reads("g5 5;" + all, 26);
        StringBuilder longest = new StringBuilder("d0 0;");
        while (longest.length() < 150) {
            longest.append(' ');
        }
        reads(longest.toString(), 1);
        longest.setCharAt(149, ';');
        reads(longest.toString(), -10 - 149);
    }

    /** The FAULT is where the sign ^ stands in the second line. */
    private static void fault(String text, String mark) {
        reads(text, -10 - mark.indexOf('^'));
    }

    private static void gridFindsFaults() {
        fault("x", "^");
        fault(";", "^");
        fault("5", "^");
        fault("  ;", "  ^");
        fault("G4 4;", "^");
        fault("d0\t0;", "  ^");
        fault("d0 0;;", "     ^");
        fault("d0 0 0;", "     ^");
        fault("d0 0 d1 1;", "     ^");
        fault("d0;", "  ^");
        fault("d;", " ^");
        fault("dd", " ^");
        // g
        fault("g4 4;g4 4;", "     ^");
        fault("k0 1 1;g4 4;", "       ^");
        fault("d0 0; g4 4;", "      ^");
        fault("g0 4;", " ^");
        fault("g9 4;", " ^");
        fault("g4 0;", "   ^");
        fault("g4 9;", "   ^");
        fault("g44;", " ^");
        // k
        fault("k3 1 1;", " ^");
        fault("k0 0 1;", "   ^");
        fault("k0 1000 1;", "   ^");
        fault("k0 1 0;", "     ^");
        fault("k0 1 100;", "     ^");
        // a
        fault("a0 1;", " ^");
        fault("a5 1;", " ^");
        fault("a1 0;", "   ^");
        fault("a1 5;", "   ^");
        // CELLS
        fault("d4 0;", " ^");
        fault("d0 4;", "   ^");
        fault("s4 0;", " ^");
        fault("s0 4;", "   ^");
        fault("g2 3;d2 0;", "      ^");
        fault("g2 3;d0 3;", "        ^");
        fault("d0 0;d0 0;", "        ^");
        fault("s0 0;s0 0;", "        ^");
        fault("s0 0;d0 0;", "        ^");
        fault("d0 0;s0 0;", "        ^");
        fault("d0 0;s0 0", "        ^");
        // NUMBERS
        fault("d00 0;", " ^");
        fault("d01 0;", " ^");
        fault("d0 00;", "   ^");
        fault("k0 010 1;", "   ^");
        fault("k0 4294967297 1;", "   ^");
        fault("k0 99999999999999999999 1;", "   ^");
        fault("d-1 0;", " ^");
        fault("d0 4294967296;", "   ^");
        fault("d0 0;00", "     ^");
        fault("d0 0;1000", "     ^");
        fault("00", "^");
        // it ends too early
        fault("d", " ^");
        fault("d0", "  ^");
        fault("d0 0", "    ^");
        fault("d0 0  ", "      ^");
        fault("g4 4;k0 1", "         ^");
        // the first one counts
        fault("d0 9;x", "   ^");
        fault("d0 0 x 9;", "     ^");
    }

    /** Letters of a text that was cleared, or read, are not read on behind a shorter one. */
    private static void gridReadsThisTextAlone() {
        DotThresholds x = new DotThresholds();
        Due.types(x, "d0 01;");
        x.clear();
        Due.types(x, "d0 0");
        T.due("grid() of a text that ends in a NUMBER", x.grid(), -10 - 4);
        x.clear();
        Due.types(x, "d1 1;d2 2;");
        T.due("grid()", x.grid(), 2);
        Due.types(x, "d3 3;");
        T.due("grid() of a shorter one", x.grid(), 1);
        T.shows("the shorter one", x, "..../..../..../...o/");
        x.clear();
        for (int n = 0; n < 149; n++) {
            x.type(' ');
        }
        x.type('7');
        T.due("grid() of a NUMBER at the very end", x.grid(), -10 - 149);
    }

    private static void gridTellsAllAnew() {
        DotThresholds x = Due.told("g3 2;k1 60 9;a1 2;s1 1;d0 0;");
        int[] want = {3, 2, 5, 1, 1, 60, 9, 1, 2, 0, 0, 0};
        for (int what = 0; what < want.length; what++) {
            T.due("told: count(" + what + ")", x.count(what), want[what]);
        }
        T.shows("told:", x, "o../.x./");
        x.flips(2, 0);
        x.paints(5, 0, 0);
        x.sees(0, 1);
        x.keep(0);
        x.keep(1);
        T.due("grid() of nothing", x.grid(), 0);
        int[] first = {4, 4, 16, 0, 0, 100, 1, 1, 1, 0, 0, 0};
        for (int what = 0; what < first.length; what++) {
            T.due("anew: count(" + what + ")", x.count(what), first[what]);
        }
        T.shows("anew:", x, "..../..../..../..../");
        T.due("anew: undo()", x.undo(), Due.STATE);
        T.due("anew: back(0)", x.back(0), Due.STATE);
        T.due("anew: back(1)", x.back(1), Due.STATE);
        x.flips(0, 0);
        T.due("anew: ink(0, 0)", x.ink(0, 0), 0);
        T.due("anew: unseen(0)", x.unseen(0), 17);
        // ranks of the same dots are other ones on another ground
        T.due("4 4: ranked(1)", x.ranked(1), 10);
        Due.reads(x, "g4 1;d0 0;");
        T.due("4 1: ranked(1)", x.ranked(1), 2);
        Due.reads(x, "k1 60 9;k2 8 7;a2 3;a1 4;");
        T.due("told last: KERNEL", x.count(4), 2);
        T.due("told last: POWER", x.count(5), 8);
        T.due("told last: FALL", x.count(6), 7);
        T.due("told last: AX", x.count(7), 1);
        T.due("told last: AY", x.count(8), 4);
    }

    private static void gridRefusedChangesNothing() {
        DotThresholds x = Due.told("g3 2;k1 60 9;a1 2;s1 1;d0 0;");
        x.flips(2, 0);
        x.paints(5, 0, 0);
        x.sees(0, 1);
        x.keep(0);
        T.due("grid() with a fault", Due.reads(x, "g5 5;k2 8 8;a3 3;s0 0;d1 1;q"), -10 - 27);
        int[] want = {3, 2, 5, 2, 1, 60, 9, 1, 2, 1, 28, 1};
        for (int what = 0; what < want.length; what++) {
            T.due("refused: count(" + what + ")", x.count(what), want[what]);
        }
        T.shows("refused:", x, "o.o/.x./");
        T.due("refused: near(0, 3, 1)", x.near(0, 3, 1), 42);
        T.due("refused: held(0, 0)", x.held(0, 0), 60 + 51);
        T.due("refused: ink(1, 0)", x.ink(1, 0), 1);
        T.due("refused: undo()", x.undo(), 0);
        T.due("refused: back(0)", x.back(0), 2);
        T.due("refused: the text stays", x.clear(), 28);
    }

    private static void cell() {
        DotThresholds x = Due.told("g3 2;s2 0;d0 1;");
        T.due("cell(0, 0)", x.cell(0, 0), 0);
        T.due("cell(2, 0)", x.cell(2, 0), 2);
        T.due("cell(0, 1)", x.cell(0, 1), 1);
        T.due("cell(2, 1)", x.cell(2, 1), 0);
        T.due("cell(3, 0)", x.cell(3, 0), Due.BAD);
        T.due("cell(0, 2)", x.cell(0, 2), Due.BAD);
        T.due("cell(-1, 1)", x.cell(-1, 1), Due.BAD);
        T.due("cell(1, -1)", x.cell(1, -1), Due.BAD);
        T.due("cell(max, max)", x.cell(Integer.MAX_VALUE, Integer.MAX_VALUE), Due.BAD);
        T.due("cell(min, min)", x.cell(Integer.MIN_VALUE, Integer.MIN_VALUE), Due.BAD);
        DotThresholds last = Due.told("g8 8;d7 7;s6 7;");
        T.due("8 8: cell(7, 7)", last.cell(7, 7), 1);
        T.due("8 8: cell(6, 7)", last.cell(6, 7), 2);
        T.due("8 8: cell(0, 0)", last.cell(0, 0), 0);
        T.due("8 8: FREE", last.count(2), 63);
    }

    private static void nearByDistance() {
        DotThresholds x = Due.told("g8 5;a2 3;s7 0;");
        T.due("near(0, 0, 0)", x.near(0, 0, 0), 0);
        T.due("near(0, 7, 0), round the edge, to a SHUT one", x.near(0, 7, 0), 2);
        T.due("near(7, 0, 0)", x.near(7, 0, 0), 2);
        T.due("near(0, 4, 0)", x.near(0, 4, 0), 32);
        T.due("near(0, 24, 0)", x.near(0, 24, 0), 12);
        T.due("near(0, 16, 0)", x.near(0, 16, 0), 12);
        T.due("near(39, 0, 0)", x.near(39, 0, 0), 5);
        T.due("near(10, 36, 0)", x.near(10, 36, 0), 2 * 4 + 3 * 4);
        T.due("near(40, 0, 0)", x.near(40, 0, 0), Due.BAD);
        T.due("near(0, 40, 0)", x.near(0, 40, 0), Due.BAD);
        T.due("near(-1, 0, 0)", x.near(-1, 0, 0), Due.BAD);
        T.due("near(0, -1, 0)", x.near(0, -1, 0), Due.BAD);
        T.due("near(0, 0, 2)", x.near(0, 0, 2), Due.BAD);
        T.due("near(0, 0, -1)", x.near(0, 0, -1), Due.BAD);
        T.due("farthest", Due.told("g8 8;a4 4;").near(0, 36, 0), 128);
        T.due("1 1", Due.told("g1 1;").near(0, 0, 0), 0);
        T.due("1 1: near(0, 1, 0)", Due.told("g1 1;").near(0, 1, 0), Due.BAD);
    }

    private static void nearByWeight() {
        DotThresholds x = Due.told("g8 5;a2 3;");
        T.due("KERNEL 0, near(0, 0, 1)", x.near(0, 0, 1), 100);
        T.due("KERNEL 0, near(0, 7, 1)", x.near(0, 7, 1), 33);
        T.due("KERNEL 0, near(0, 39, 1)", x.near(0, 39, 1), 16);
        x = Due.told("g8 5;a2 3;k1 50 7;");
        T.due("KERNEL 1, near(0, 0, 1)", x.near(0, 0, 1), 50);
        T.due("KERNEL 1, near(0, 39, 1)", x.near(0, 39, 1), 15);
        T.due("KERNEL 1, near(0, 2, 1), below 0", x.near(0, 2, 1), 0);
        x = Due.told("g8 8;k2 999 1;a1 4;");
        T.due("KERNEL 2, d 0", x.near(0, 0, 1), 999);
        T.due("KERNEL 2, d 1", x.near(0, 1, 1), 499);
        T.due("KERNEL 2, d 5", x.near(0, 9, 1), 31);
        T.due("KERNEL 2, d 9", x.near(0, 3, 1), 1);
        T.due("KERNEL 2, d 16", x.near(0, 16, 1), 0);
        x = Due.told("g8 8;k2 999 1;a2 4;");
        T.due("KERNEL 2, d 32", x.near(0, 4, 1), 0);
        T.due("KERNEL 2, d 64", x.near(0, 32, 1), 0);
        T.due("KERNEL 2, d 66", x.near(0, 33, 1), 0);
        x = Due.told("g8 8;k2 999 1;a4 4;");
        T.due("KERNEL 2, d 128", x.near(0, 36, 1), 0);
        T.due("near(0, 64, 1)", x.near(0, 64, 1), Due.BAD);
    }
}
