/** Promises 27 to 29: keep, back, count. */
public final class ImageTest {
    private static final Due T = new Due("ImageTest");

    public static void main(String[] args) {
        keepAndBack();
        imagesKeepDotsAlone();
        refused();
        count();
        T.end();
    }

    private static void keepAndBack() {
        DotThresholds x = Due.told("d0 0;d1 0;");
        T.due("keep(0)", x.keep(0), 2);
        x.flips(2, 0);
        T.due("keep(1)", x.keep(1), 3);
        x.flips(0, 0);
        x.flips(3, 3);
        T.due("back(0)", x.back(0), 2);
        T.shows("back(0)", x, "oo../..../..../..../");
        T.due("held(0, 0)", x.held(0, 0), 150);
        T.due("undo() behind back()", x.undo(), Due.STATE);
        T.due("may be UNDONE", x.count(11), 0);
        T.due("back(1)", x.back(1), 3);
        T.shows("back(1)", x, "ooo./..../..../..../");
        T.due("back(0) once more", x.back(0), 2);
        x.flips(0, 0);
        T.due("keep(0) anew", x.keep(0), 1);
        x.flips(1, 0);
        T.due("back(0) anew", x.back(0), 1);
        T.shows("back(0) anew", x, ".o../..../..../..../");
    }

    private static void imagesKeepDotsAlone() {
        DotThresholds x = Due.told("d0 0;");
        x.keep(0);
        x.flips(1, 0);
        T.due("keep() can be followed by undo()", x.count(11), 1);
        x.sees(0, 1);
        x.paints(16, 0, 0);
        Due.types(x, "abc");
        T.due("back(0)", x.back(0), 1);
        T.due("SEEN", x.count(9), 1);
        T.due("letters", x.count(10), 3);
        T.due("ink(3, 3)", x.ink(3, 3), 1);
        DotThresholds none = Due.told("d0 0;");
        none.flips(0, 0);
        T.due("keep(1) of no DOT", none.keep(1), 0);
        none.flips(2, 2);
        T.due("back(1) of no DOT", none.back(1), 0);
        T.shows("no DOT", none, "..../..../..../..../");
    }

    private static void refused() {
        DotThresholds x = Due.told("d0 0;");
        x.flips(1, 0);
        int[] bad = {-1, 2, Integer.MIN_VALUE, Integer.MAX_VALUE};
        for (int b : bad) {
            T.due("keep(" + b + ")", x.keep(b), Due.BAD);
            T.due("back(" + b + ")", x.back(b), Due.BAD);
        }
        T.due("back(0), none kept", x.back(0), Due.STATE);
        T.due("back(1), none kept", x.back(1), Due.STATE);
        x.keep(1);
        T.due("back(0), the other one kept", x.back(0), Due.STATE);
        T.due("refused: may be UNDONE", x.count(11), 1);
        T.shows("refused", x, "oo../..../..../..../");
    }

    private static void count() {
        DotThresholds x = Due.told("g7 5;k1 321 45;a2 3;s6 4;s5 4;d0 0;d1 1;d2 2;");
        x.sees(0, 1);
        x.sees(9, 1);
        x.sees(9, 2);
        x.sees(9, 2);
        Due.types(x, "g1 1;zz");
        x.flips(3, 3);
        x.flips(3, 4);
        int[] want = {7, 5, 33, 5, 1, 321, 45, 2, 3, 4, 7, 2};
        for (int what = 0; what < want.length; what++) {
            T.due("count(" + what + ")", x.count(what), want[what]);
        }
        int[] bad = {-1, 12, Integer.MIN_VALUE, Integer.MAX_VALUE};
        for (int b : bad) {
            T.due("count(" + b + ")", x.count(b), Due.BAD);
        }
    }
}
