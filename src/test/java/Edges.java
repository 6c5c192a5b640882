import java.util.List;
import java.util.Set;
import java.util.TreeSet;

/** Boundary cases: each is told under its promise and the words of the document that name it. */
final class Edges {
    static final int[] FAR = {Integer.MIN_VALUE, Integer.MIN_VALUE + 1, -1000, 1000, 65536, Integer.MAX_VALUE - 8, Integer.MAX_VALUE};

    interface Call {
        int on(DotThresholds x);
    }

    interface CallOf {
        int on(DotThresholds x, int number);
    }

    private final Due due;
    private final Doc doc = new Doc();
    private final Set<Integer> promises = new TreeSet<>();
    private String sentence = "";

    Edges(String test) {
        due = new Due(test);
    }

    /** What follows is told under these words. */
    void of(int promise, String words) {
        promises.add(promise);
        sentence = "promise " + promise + " '" + words + "' ";
        if (doc.isThere()) {
            due("the document says so", doc.says(promise, words) ? 1 : 0, 1);
        }
    }

    void due(String call, long got, long want) {
        due.due(sentence + call, got, want);
    }

    void shows(String when, DotThresholds x, String want) {
        due.shows(sentence + when, x, want);
    }

    /** A call that changes nothing, whatever it answers: an object that was not asked answers everything alike. */
    void asks(String name, Call call, Starts.Start... starts) {
        for (Starts.Start start : starts) {
            DotThresholds x = start.made();
            call.on(x);
            alike(name + " changes nothing", x, start.made());
        }
    }

    /** As asks(), with what it answers. */
    void leavesAll(String name, Call call, int want, Starts.Start... starts) {
        for (Starts.Start start : starts) {
            due(name, call.on(start.made()), want);
        }
        asks(name, call, starts);
    }

    void bad(String name, Call call, Starts.Start... starts) {
        leavesAll(name, call, Due.BAD, starts);
    }

    void state(String name, Call call, Starts.Start... starts) {
        leavesAll(name, call, Due.STATE, starts);
    }

    void full(String name, Call call, Starts.Start... starts) {
        leavesAll(name, call, Due.FULL, starts);
    }

    /** Numbers that are just too small, just too large and far beyond. */
    void badBeyond(String name, int least, int greatest, CallOf call, Starts.Start... starts) {
        int[] near = {least - 1, greatest + 1};
        for (int number : near) {
            bad(name + " of " + number, x -> call.on(x, number), starts);
        }
        for (int number : FAR) {
            bad(name + " of " + number, x -> call.on(x, number), starts);
        }
    }

    /** Two objects answer everything alike; they are of no use behind it. */
    void alike(String name, DotThresholds x, DotThresholds other) {
        List<String> got = Trace.of(x);
        List<String> want = Trace.of(other);
        due(name + ": calls", got.size(), want.size());
        for (int i = 0; i < Math.min(got.size(), want.size()); i++) {
            boolean same = got.get(i).equals(want.get(i));
            due(same ? name : name + ": " + got.get(i) + ", not: " + want.get(i), same ? 1 : 0, 1);
        }
    }

    /** Ends the machine with 1 also if one of these promises was not named. */
    void end(int first, int last) {
        sentence = "";
        for (int promise = first; promise <= last; promise++) {
            due("promise " + promise + " is named", promises.contains(promise) ? 1 : 0, 1);
        }
        due.end();
    }
}
