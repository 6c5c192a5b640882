import java.util.Random;

/** Runs of calls by chance (always the same ones), each answer held against the model's. */
public final class ModelTest {
    private static final Due T = new Due("ModelTest");
    private static final int[] ODD = {-1, -2, 8, 9, 12, 16, 64, 65, 255, 256, 999, 1000, Integer.MAX_VALUE, Integer.MIN_VALUE};

    private final Random chance;
    private final DotThresholds x = new DotThresholds();
    private final Model m = new Model();
    private final int run;
    private int calls;

    private ModelTest(int run) {
        this.run = run;
        chance = new Random(run);
    }

    public static void main(String[] args) {
        int runs = args.length > 0 ? Integer.parseInt(args[0]) : 400;
        for (int run = 0; run < runs; run++) {
            new ModelTest(run).goes();
        }
        T.end();
    }

    private void goes() {
        if (chance.nextInt(4) != 0) {
            types(text());
        }
        while (calls < 512) {
            if (chance.nextInt(60) == 0 && calls < 300) {
                types(text());
            } else {
                calls();
            }
        }
    }

    private void same(String call, int got, int want) {
        calls++;
        T.due("run " + run + " call " + calls + " " + call, got, want);
    }

    private void types(String text) {
        for (int i = 0; i < text.length(); i++) {
            int letter = text.charAt(i);
            same("type(" + letter + ")", x.type(letter), m.type(letter));
        }
        same("grid() of " + text, x.grid(), m.grid());
        if (chance.nextBoolean()) {
            same("clear()", x.clear(), m.clear());
        }
    }

    private String text() {
        StringBuilder all = new StringBuilder();
        int w = 4, h = 4;
        if (chance.nextInt(3) != 0) {
            w = 1 + chance.nextInt(8);
            h = 1 + chance.nextInt(8);
            all.append("g").append(w).append(' ').append(h).append(';');
        }
        if (chance.nextBoolean()) {
            int power = chance.nextBoolean() ? 999 : 1 + chance.nextInt(200);
            all.append("k").append(chance.nextInt(3)).append(' ').append(power).append(' ').append(1 + chance.nextInt(30)).append(';');
        }
        if (chance.nextBoolean()) {
            all.append("a").append(1 + chance.nextInt(4)).append(' ').append(1 + chance.nextInt(4)).append(';');
        }
        boolean[] used = new boolean[64];
        int cells = chance.nextInt(20);
        boolean manyShut = chance.nextBoolean();
        for (int i = 0; i < cells; i++) {
            int a = chance.nextInt(w), b = chance.nextInt(h);
            // a CELL that was told already is told again at times only
            if (used[b * w + a] && chance.nextInt(60) != 0) {
                continue;
            }
            used[b * w + a] = true;
            boolean isShut = chance.nextInt(manyShut ? 2 : 8) == 0;
            all.append(isShut ? "s" : "d").append(a).append(' ').append(b).append(';');
        }
        if (all.length() > 0 && chance.nextInt(4) == 0) {
            spoil(all);
        }
        return all.toString();
    }

    private void spoil(StringBuilder all) {
        String signs = " ;gkasd0123456789x;  00" + (char) 0 + (char) 255 + (char) 9 + (char) 10;
        int at = chance.nextInt(all.length());
        char sign = signs.charAt(chance.nextInt(signs.length()));
        switch (chance.nextInt(4)) {
            case 0 -> all.setCharAt(at, sign);
            case 1 -> all.insert(at, sign);
            case 2 -> all.deleteCharAt(at);
            default -> all.setLength(at);
        }
    }

    /** Mostly below a bound, at times a number that is odd. */
    private int some(int bound) {
        if (chance.nextInt(12) == 0) {
            return ODD[chance.nextInt(ODD.length)];
        }
        return chance.nextInt(Math.max(1, bound));
    }

    private int cells() {
        return m.count(0) * m.count(1);
    }

    private void calls() {
        int a = some(m.count(0)), b = some(m.count(1));
        int c = some(cells()), d = some(cells());
        int what = some(3);
        String cell = "(" + a + ", " + b + ")";
        switch (chance.nextInt(30)) {
            case 0 -> same("cell" + cell, x.cell(a, b), m.cell(a, b));
            case 1 -> same("near(" + c + ", " + d + ", " + what + ")", x.near(c, d, what), m.near(c, d, what));
            case 2, 3, 4 -> same("flips" + cell, x.flips(a, b), m.flips(a, b));
            case 5 -> { int n = some(66); same("rests(" + n + ")", x.rests(n), m.rests(n)); }
            case 6, 7 -> same("moves(" + c + ", " + d + ")", x.moves(c, d), m.moves(c, d));
            case 8 -> same("undo()", x.undo(), m.undo());
            case 9 -> same("held" + cell, x.held(a, b), m.held(a, b));
            case 10 -> same("extreme(" + what + ")", x.extreme(what), m.extreme(what));
            case 11 -> same("energy()", x.energy(), m.energy());
            case 12 -> { if (chance.nextInt(4) == 0) same("better(" + what + ")", x.better(what), m.better(what)); }
            case 13 -> same("shifts()", x.shifts(), m.shifts());
            case 14 -> same("rank" + cell, x.rank(a, b), m.rank(a, b));
            case 15 -> { int r = some(m.count(2) + 1); same("ranked(" + r + ")", x.ranked(r), m.ranked(r)); }
            case 16 -> same("stage" + cell, x.stage(a, b), m.stage(a, b));
            case 17 -> {
                int t = some(m.count(2) + 2);
                same("shade(" + t + ", " + what + ")", x.shade(t, what), m.shade(t, what));
            }
            case 18 -> {
                if (chance.nextInt(8) == 0) { int g = some(30); same("finest(" + g + ")", x.finest(g), m.finest(g)); }
            }
            case 19 -> {
                int base = some(66), dx = some(19) - 9, dy = some(19) - 9;
                same("paints(" + base + ", " + dx + ", " + dy + ")", x.paints(base, dx, dy), m.paints(base, dx, dy));
            }
            case 20, 21 -> same("ink" + cell, x.ink(a, b), m.ink(a, b));
            case 22 -> same("off()", x.off(), m.off());
            case 23 -> {
                int line = some(16), n = some(chance.nextBoolean() ? 3 : 10);
                same("sees(" + line + ", " + n + ")", x.sees(line, n), m.sees(line, n));
            }
            case 24 -> { if (chance.nextInt(3) == 0) same("forget()", x.forget(), m.forget()); }
            case 25, 26 -> {
                if (chance.nextInt(8) == 0) same("unseen(" + what + ")", x.unseen(what), m.unseen(what));
            }
            case 27 -> same("keep(" + what + ")", x.keep(what), m.keep(what));
            case 28 -> { if (chance.nextInt(4) == 0) same("back(" + what + ")", x.back(what), m.back(what)); }
            default -> { int n = some(13); same("count(" + n + ")", x.count(n), m.count(n)); }
        }
    }
}
