/** Objects that hold something of everything, at which calls are refused. */
final class Starts {
    interface Start {
        DotThresholds made();
    }

    /** 3 by 2 CELLS; 4 is SHUT, 0 and 5 have DOTS. */
    static final Start BUSY = Starts::busy;
    /** The same with no DOT. */
    static final Start NO_DOT = Starts::noDot;
    /** The same with all that has a bound at it: letters, what is SEEN, what may be UNDONE; 3 FREE CELLS of 5 have DOTS. */
    static final Start FULL = Starts::full;
    static final Start NEW = DotThresholds::new;
    /** All FREE CELLS of 3 by 2 (4 is SHUT) have DOTS. */
    static final Start ALL_DOTS = Starts::allDots;

    /** Those of 3 by 2 CELLS, one of them SHUT. */
    static final Start[] TOLD = {BUSY, NO_DOT, FULL, ALL_DOTS};
    static final Start[] EACH = {BUSY, NO_DOT, FULL, ALL_DOTS, NEW};
    static final Start[] WITH_DOTS = {BUSY, FULL, ALL_DOTS};

    private Starts() { }

    private static DotThresholds busy() {
        DotThresholds x = Due.told("g3 2;k1 60 9;a1 2;s1 1;d0 0;");
        x.keep(0);
        x.flips(2, 0);
        x.flips(2, 1);
        x.keep(1);
        x.rests(1);
        x.undo();
        x.moves(2, 1);
        x.flips(1, 0);
        x.paints(2, 1, 1);
        x.sees(0, 1);
        x.sees(9, 0);
        Due.types(x, "g2 1;d1 0;");
        return x;
    }

    private static DotThresholds noDot() {
        DotThresholds x = busy();
        x.flips(0, 0);
        x.flips(2, 1);
        return x;
    }

    private static DotThresholds full() {
        DotThresholds x = busy();
        for (int i = 0; i < 6; i++) {
            x.flips(1, 0);
        }
        x.flips(2, 0);
        x.sees(1, 1);
        x.sees(8, 1);
        x.sees(10, 1);
        x.sees(0, 1);
        for (int letters = x.count(10); letters < 150; letters++) {
            x.type(' ');
        }
        return x;
    }

    private static DotThresholds allDots() {
        DotThresholds x = busy();
        x.flips(1, 0);
        x.flips(2, 0);
        x.flips(0, 1);
        return x;
    }
}
