/** Promises 11 to 15: held, extreme, energy, better, shifts. */
public final class HoldTest {
    private static final Due T = new Due("HoldTest");

    public static void main(String[] args) {
        held();
        extreme();
        energy();
        better();
        betterOfNone();
        largestGrid();
        shifts();
        T.end();
    }

    private static void held() {
        DotThresholds x = Due.told("s1 0;d0 0;d2 2;");
        T.due("held(0, 0), its own too", x.held(0, 0), 100 + 11);
        T.due("held(1, 0), SHUT", x.held(1, 0), 50 + 16);
        T.due("held(3, 3), round the edges", x.held(3, 3), 33 + 33);
        T.due("held(4, 0)", x.held(4, 0), Due.BAD);
        T.due("held(0, 4)", x.held(0, 4), Due.BAD);
        T.due("held(-1, 0)", x.held(-1, 0), Due.BAD);
        T.due("held(0, -1)", x.held(0, -1), Due.BAD);
        T.due("held(0, 0) of none", new DotThresholds().held(0, 0), 0);
        T.due("KERNEL 1", Due.told("k1 60 9;a1 2;d0 0;d1 1;").held(0, 0), 60 + 33);
    }

    private static void extreme() {
        DotThresholds x = Due.told("d0 0;d1 0;d2 1;");
        T.due("extreme(0)", x.extreme(0), 1);
        T.due("extreme(1)", x.extreme(1), 8);
        T.due("extreme(-1)", x.extreme(-1), Due.BAD);
        T.due("extreme(2)", x.extreme(2), Due.BAD);
        x = new DotThresholds();
        T.due("extreme(0), no DOT", x.extreme(0), Due.NONE);
        T.due("extreme(1), no DOT", x.extreme(1), 0);
        x = Due.told("g2 1;s0 0;");
        T.due("extreme(1), the lowest FREE one", x.extreme(1), 1);
        x.flips(1, 0);
        T.due("extreme(0), the only DOT", x.extreme(0), 1);
        T.due("extreme(1), all FREE ones have DOTS", x.extreme(1), Due.NONE);
        x = Due.told("g1 1;s0 0;");
        T.due("extreme(0), nothing FREE", x.extreme(0), Due.NONE);
        T.due("extreme(1), nothing FREE", x.extreme(1), Due.NONE);
        x = Due.told("g5 1;d4 0;d2 0;");
        T.due("extreme(0), of two the lowest", x.extreme(0), 2);
        T.due("extreme(1), of two the lowest", x.extreme(1), 0);
    }

    private static void energy() {
        T.due("of no DOT", new DotThresholds().energy(), 0);
        T.due("of one DOT", Due.told("d3 3;").energy(), 0);
        T.due("of two", Due.told("d0 0;d3 3;").energy(), 33);
        T.due("of three", Due.told("d0 0;d1 0;d2 1;").energy(), 50 + 16 + 33);
        T.due("KERNEL 2", Due.told("k2 64 1;d0 0;d1 0;d1 1;").energy(), 32 + 16 + 32);
        T.due("by AX, AY", Due.told("a2 3;d0 0;d1 1;").energy(), 16);
    }

    private static void better() {
        DotThresholds x = Due.told("d0 0;d1 0;d2 1;");
        T.due("better(0)", x.better(0), 47);
        T.due("better(1)", x.better(1), 1);
        T.due("better(2)", x.better(2), 8);
        T.due("better(-1)", x.better(-1), Due.BAD);
        T.due("better(3)", x.better(3), Due.BAD);
        T.shows("nothing is changed", x, "oo../..o./..../..../");
        x = Due.told("d0 0;d2 2;");
        T.due("better(0), below 0", x.better(0), 11 - 16);
        T.due("better(1), the lowest DOT", x.better(1), 0);
        T.due("better(2), the lowest CELL", x.better(2), 1);
        x = Due.told("g4 1;d1 0;d2 0;");
        T.due("better(0), to CELL 0", x.better(0), 50 - 20);
        T.due("better(1), to CELL 0", x.better(1), 1);
        T.due("better(2), to CELL 0", x.better(2), 0);
        x = Due.told("s0 0;d2 2;");
        T.due("better(0), one DOT", x.better(0), 0);
        T.due("better(1), one DOT", x.better(1), 10);
        T.due("better(2), one DOT, not a SHUT CELL", x.better(2), 1);
    }

    private static void betterOfNone() {
        String[] texts = {"", "g2 1;d0 0;d1 0;", "g2 1;s0 0;d1 0;", "g1 1;s0 0;"};
        for (String text : texts) {
            DotThresholds x = Due.told(text);
            T.due(text + " better(0)", x.better(0), 0);
            T.due(text + " better(1)", x.better(1), Due.NONE);
            T.due(text + " better(2)", x.better(2), Due.NONE);
            T.due(text + " better(3)", x.better(3), Due.BAD);
        }
    }

    /** All 64 CELLS are there, and no one counts twice. */
    private static void largestGrid() {
        DotThresholds x = Due.told("g8 8;k1 1 1;d0 0;d7 7;");
        T.due("energy(), 8 8", x.energy(), 0);
        T.due("held(7, 7), 8 8", x.held(7, 7), 1);
        x = Due.told("g8 8;d0 0;d1 0;");
        T.due("energy(), 8 8, two DOTS", x.energy(), 50);
        for (int c = 2; c < 64; c++) {
            x.flips(c % 8, c / 8);
        }
        T.due("extreme(1), 8 8, all DOTS", x.extreme(1), Due.NONE);
        T.due("better(1), 8 8, all DOTS", x.better(1), Due.NONE);
        x.flips(0, 0);
        T.due("better(2), 8 8, one CELL left", x.better(2), 0);
        T.due("better(0), 8 8, one CELL left", x.better(0), 50 - 50);
        T.due("better(1), 8 8, one CELL left", x.better(1), 1);
        x.flips(0, 0);
        x.flips(7, 7);
        T.due("better(2), 8 8, the last CELL left", x.better(2), 63);
        T.due("extreme(1), 8 8, the last CELL left", x.extreme(1), 63);
    }

    private static void shifts() {
        shifts("", 16);
        shifts("g1 1;", 1);
        shifts("g8 8;", 64);
        shifts("d0 0;", 1);
        shifts("s0 0;", 1);
        shifts("d0 0;d2 2;", 2);
        shifts("s0 0;d2 2;", 1);
        shifts("g4 2;d0 0;d2 0;", 2);
        shifts("g4 2;d0 0;d2 0;d0 1;d2 1;", 4);
        shifts("g4 2;d0 0;d1 1;d2 0;d3 1;", 4);
        shifts("g4 2;s1 0;d0 0;d2 0;", 1);
        shifts("g4 2;s1 0;s3 0;d0 0;d2 0;", 2);
        shifts("g3 2;d0 0;d1 0;d2 0;", 3);
        shifts("g3 1;d0 0;d1 0;", 1);
        shifts("g2 3;d0 0;d0 1;d0 2;", 3);
    }

    private static void shifts(String text, int want) {
        T.due(text + " shifts()", Due.told(text).shifts(), want);
    }
}
