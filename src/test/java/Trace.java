import java.util.ArrayList;
import java.util.List;

/**
 * All that an object answers, one line a call: what can be asked first, then what is known only by using it up
 * (what may be UNDONE, IMAGES, THE TEXT's letters). The object is of no use behind it.
 */
final class Trace {
    /** With what went ahead, no object may come to 512 calls. */
    private static final int MOST_CALLS = 300;

    private final DotThresholds x;
    private final List<String> lines = new ArrayList<>();

    private Trace(DotThresholds x) {
        this.x = x;
    }

    static List<String> of(DotThresholds x) {
        Trace trace = new Trace(x);
        trace.counts();
        trace.grounds();
        trace.holds();
        trace.ranks();
        trace.pictures();
        trace.pasts();
        trace.images();
        trace.withADot();
        trace.text();
        if (trace.lines.size() > MOST_CALLS) {
            throw new IllegalStateException("a trace of " + trace.lines.size() + " calls");
        }
        return trace.lines;
    }

    private int line(String call, int answer) {
        lines.add(call + " is " + answer);
        return answer;
    }

    private void counts() {
        for (int what = 0; what <= 11; what++) {
            line("count(" + what + ")", x.count(what));
        }
    }

    private interface OfCell {
        int answer(int cellX, int cellY);
    }

    private void cells(String call, OfCell asked) {
        int width = x.count(0), height = x.count(1);
        for (int c = 0; c < width * height; c++) {
            line(call + "(" + c % width + ", " + c / width + ")", asked.answer(c % width, c / width));
        }
    }

    private void grounds() {
        cells("cell", x::cell);
        int all = x.count(0) * x.count(1);
        for (int way = 0; way <= 1; way++) {
            line("near(0, last, " + way + ")", x.near(0, all - 1, way));
            line("near(0, middle, " + way + ")", x.near(0, all / 2, way));
        }
    }

    private void holds() {
        cells("held", x::held);
        line("energy()", x.energy());
        line("shifts()", x.shifts());
        line("extreme(0)", x.extreme(0));
        line("extreme(1)", x.extreme(1));
        for (int what = 0; what <= 2; what++) {
            line("better(" + what + ")", x.better(what));
        }
    }

    private void ranks() {
        cells("rank", x::rank);
        cells("stage", x::stage);
        for (int t = 0; t <= x.count(2); t++) {
            line("shade(" + t + ", 0)", x.shade(t, 0));
            line("shade(" + t + ", 1)", x.shade(t, 1));
        }
        line("ranked(0)", x.ranked(0));
        line("finest(2)", x.finest(2));
    }

    private void pictures() {
        cells("ink", x::ink);
        line("off()", x.off());
        for (int what = 0; what <= 2; what++) {
            line("unseen(" + what + ")", x.unseen(what));
        }
    }

    private void pasts() {
        int more = x.count(11);
        for (int i = 0; i <= more; i++) {
            line("undo()", x.undo());
            lines.add("undone: " + Due.shown(x));
        }
    }

    private void images() {
        for (int image = 0; image <= 1; image++) {
            line("back(" + image + ")", x.back(image));
            lines.add("back: " + Due.shown(x));
        }
    }

    /** The PICTURE and what is SEEN can't be asked for while there is no DOT. */
    private void withADot() {
        for (int c = 0; x.count(3) == 0 && c < x.count(0) * x.count(1); c++) {
            line("flips", x.flips(c % x.count(0), c / x.count(0)));
        }
        pictures();
    }

    private void text() {
        line("grid()", x.grid());
        counts();
        cells("cell", x::cell);
        line("clear()", x.clear());
    }
}
