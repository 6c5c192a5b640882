import java.util.ArrayDeque;
import java.util.ArrayList;
import java.util.Arrays;
import java.util.Deque;
import java.util.List;
import java.util.Map;
import java.util.TreeMap;
import java.util.TreeSet;
import java.util.regex.Matcher;
import java.util.regex.Pattern;

/** The document once more, sentence by sentence and with no thought of speed, to hold the class against. */
final class Model {
    static final int BAD = -1, STATE = -2, FULL = -3, NONE = -9;

    private StringBuilder text = new StringBuilder();
    private int width = 4, height = 4, kernel = 0, power = 100, fall = 1, ax = 1, ay = 1;
    private TreeSet<Integer> shut = new TreeSet<>();
    private TreeSet<Integer> dots = new TreeSet<>();
    private Deque<TreeSet<Integer>> known = new ArrayDeque<>();
    private List<int[]> seen = new ArrayList<>();
    private Map<Integer, TreeSet<Integer>> images = new TreeMap<>();
    private int base, slopeX, slopeY;

    // ---- the grid

    int type(int letter) {
        if (letter < 0 || letter > 255) return BAD;
        if (text.length() == 150) return FULL;
        text.append((char) letter);
        return text.length();
    }

    int clear() {
        int had = text.length();
        text = new StringBuilder();
        return had;
    }

    private record Token(int place, String letters) { }

    private static final Pattern TOKEN = Pattern.compile("[0-9]+|[^ ]", Pattern.DOTALL);

    private List<Token> tokens() {
        List<Token> found = new ArrayList<>();
        Matcher m = TOKEN.matcher(text);
        while (m.find()) found.add(new Token(m.start(), m.group()));
        found.add(new Token(text.length(), ""));
        return found;
    }

    /** The number that a TOKEN is, or -1. */
    private static int numberOf(String token) {
        return token.matches("0|[1-9][0-9]{0,2}") ? Integer.parseInt(token) : -1;
    }

    int grid() {
        Model read = new Model();
        List<Token> all = tokens();
        int at = 0;
        int items = 0;
        while (at < all.size() - 1) {
            String item = all.get(at).letters();
            int most = switch (item) { case "g", "a", "s", "d" -> 2; case "k" -> 3; default -> 0; };
            if (most == 0 || item.equals("g") && items > 0) return -10 - all.get(at).place();
            int[] n = new int[most];
            for (int i = 0; i < most; i++) {
                at++;
                n[i] = numberOf(all.get(at).letters());
                if (!read.allows(item, i, n)) return -10 - all.get(at).place();
            }
            at++;
            if (!all.get(at).letters().equals(";")) return -10 - all.get(at).place();
            at++;
            items++;
            read.take(item, n);
        }
        this.width = read.width; this.height = read.height;
        this.kernel = read.kernel; this.power = read.power; this.fall = read.fall;
        this.ax = read.ax; this.ay = read.ay;
        this.shut = read.shut; this.dots = read.dots;
        known = new ArrayDeque<>();
        seen = new ArrayList<>();
        images = new TreeMap<>();
        base = 0; slopeX = 0; slopeY = 0;
        text = new StringBuilder();
        return items;
    }

    private boolean allows(String item, int i, int[] n) {
        int[] low = switch (item) { case "g", "a" -> new int[] {1, 1}; case "k" -> new int[] {0, 1, 1}; default -> new int[] {0, 0}; };
        int[] high = switch (item) {
            case "g" -> new int[] {8, 8};
            case "a" -> new int[] {4, 4};
            case "k" -> new int[] {2, 999, 99};
            default -> new int[] {width - 1, height - 1};
        };
        if (n[i] < low[i] || n[i] > high[i]) return false;
        boolean isY = i == 1 && (item.equals("s") || item.equals("d"));
        if (!isY) return true;
        int c = n[1] * width + n[0];
        return !shut.contains(c) && !dots.contains(c);
    }

    private void take(String item, int[] n) {
        switch (item) {
            case "g" -> { width = n[0]; height = n[1]; }
            case "k" -> { kernel = n[0]; power = n[1]; fall = n[2]; }
            case "a" -> { ax = n[0]; ay = n[1]; }
            case "s" -> shut.add(n[1] * width + n[0]);
            default -> dots.add(n[1] * width + n[0]);
        }
    }

    private boolean outside(int x, int y) {
        return x < 0 || y < 0 || x >= width || y >= height;
    }

    private boolean outside(int c) {
        return c < 0 || c >= width * height;
    }

    private TreeSet<Integer> free() {
        TreeSet<Integer> all = new TreeSet<>();
        for (int c = 0; c < width * height; c++) if (!shut.contains(c)) all.add(c);
        return all;
    }

    int cell(int x, int y) {
        if (outside(x, y)) return BAD;
        int c = y * width + x;
        return shut.contains(c) ? 2 : dots.contains(c) ? 1 : 0;
    }

    private static int shorter(int a, int b, int size) {
        int forth = Math.floorMod(b - a, size);
        int back = Math.floorMod(a - b, size);
        return forth < back ? forth : back;
    }

    private int distance(int a, int b) {
        int dx = shorter(a % width, b % width, width);
        int dy = shorter(a / width, b / width, height);
        return ax * dx * dx + ay * dy * dy;
    }

    private int weight(int a, int b) {
        int d = distance(a, b);
        if (kernel == 0) return power / (1 + d);
        if (kernel == 1) return power - fall * d < 0 ? 0 : power - fall * d;
        int w = power;
        for (int i = 0; i < d; i++) w = w / 2;
        return w;
    }

    int near(int a, int b, int way) {
        if (outside(a) || outside(b) || way != 0 && way != 1) return BAD;
        return way == 0 ? distance(a, b) : weight(a, b);
    }

    // ---- what is done

    private void remember() {
        known.addLast(new TreeSet<>(dots));
        while (known.size() > 10) known.removeFirst();
    }

    int flips(int x, int y) {
        if (outside(x, y)) return BAD;
        int c = y * width + x;
        if (shut.contains(c)) return STATE;
        remember();
        if (!dots.remove(c)) dots.add(c);
        return dots.contains(c) ? 1 : 0;
    }

    private int heldBy(int c, TreeSet<Integer> holders) {
        int sum = 0;
        for (int h : holders) sum += weight(c, h);
        return sum;
    }

    private int heldMost(TreeSet<Integer> among, TreeSet<Integer> holders) {
        int best = -1;
        for (int c : among) if (best < 0 || heldBy(c, holders) > heldBy(best, holders)) best = c;
        return best;
    }

    private int heldLeast(TreeSet<Integer> among, TreeSet<Integer> holders) {
        int best = -1;
        for (int c : among) if (best < 0 || heldBy(c, holders) < heldBy(best, holders)) best = c;
        return best;
    }

    private TreeSet<Integer> freeBut(TreeSet<Integer> some) {
        TreeSet<Integer> rest = free();
        rest.removeAll(some);
        return rest;
    }

    int rests(int n) {
        if (n < 1 || n > 64) return BAD;
        if (dots.isEmpty()) return STATE;
        remember();
        int moved = 0;
        for (int i = 0; i < n; i++) {
            int from = heldMost(dots, dots);
            dots.remove(from);
            int to = heldLeast(freeBut(dots), dots);
            dots.add(to);
            if (from == to) break;
            moved++;
        }
        return moved;
    }

    int moves(int from, int to) {
        if (outside(from) || outside(to)) return BAD;
        if (!dots.contains(from) || shut.contains(to) || dots.contains(to)) return STATE;
        remember();
        int before = energy();
        dots.remove(from);
        dots.add(to);
        return energy() - before;
    }

    int undo() {
        if (known.isEmpty()) return STATE;
        dots = known.removeLast();
        return known.size();
    }

    // ---- how dots hold

    int held(int x, int y) {
        return outside(x, y) ? BAD : heldBy(y * width + x, dots);
    }

    int extreme(int what) {
        if (what != 0 && what != 1) return BAD;
        int c = what == 0 ? heldMost(dots, dots) : heldLeast(freeBut(dots), dots);
        return c < 0 ? NONE : c;
    }

    private int energyOf(TreeSet<Integer> some) {
        int sum = 0;
        for (int a : some) for (int b : some) if (a < b) sum += weight(a, b);
        return sum;
    }

    int energy() {
        return energyOf(dots);
    }

    int better(int what) {
        if (what < 0 || what > 2) return BAD;
        int[] best = null;
        for (int dot : dots) {
            for (int c : freeBut(dots)) {
                TreeSet<Integer> then = new TreeSet<>(dots);
                then.remove(dot);
                then.add(c);
                int less = energy() - energyOf(then);
                if (best == null || less > best[0]) best = new int[] {less, dot, c};
            }
        }
        if (best == null) return what == 0 ? 0 : NONE;
        return best[what];
    }

    private TreeSet<Integer> put(TreeSet<Integer> some, int dx, int dy) {
        TreeSet<Integer> there = new TreeSet<>();
        for (int c : some) there.add((c / width + dy) % height * width + (c % width + dx) % width);
        return there;
    }

    int shifts() {
        int n = 0;
        for (int dx = 0; dx < width; dx++)
            for (int dy = 0; dy < height; dy++)
                if (put(dots, dx, dy).equals(dots) && put(shut, dx, dy).equals(shut)) n++;
        return n;
    }

    // ---- ranks and shades

    /** CELL to RANK and stage. */
    private Map<Integer, int[]> ranks() {
        Map<Integer, int[]> all = new TreeMap<>();
        TreeSet<Integer> now = new TreeSet<>(dots);
        while (!now.isEmpty()) {
            int c = heldMost(now, now);
            now.remove(c);
            all.put(c, new int[] {now.size(), 0});
        }
        now.addAll(dots);
        while (now.size() < (free().size() + 1) / 2) {
            int c = heldLeast(freeBut(now), now);
            all.put(c, new int[] {now.size(), 1});
            now.add(c);
        }
        while (now.size() < free().size()) {
            TreeSet<Integer> without = freeBut(now);
            int c = heldMost(without, without);
            all.put(c, new int[] {now.size(), 2});
            now.add(c);
        }
        return all;
    }

    int rank(int x, int y) {
        if (outside(x, y)) return BAD;
        if (dots.isEmpty()) return STATE;
        int[] r = ranks().get(y * width + x);
        return r == null ? NONE : r[0];
    }

    int ranked(int rank) {
        if (rank < 0 || rank >= free().size()) return BAD;
        if (dots.isEmpty()) return STATE;
        for (Map.Entry<Integer, int[]> e : ranks().entrySet()) if (e.getValue()[0] == rank) return e.getKey();
        throw new IllegalStateException("no cell has the rank " + rank);
    }

    int stage(int x, int y) {
        if (outside(x, y)) return BAD;
        if (dots.isEmpty()) return STATE;
        int[] r = ranks().get(y * width + x);
        return r == null ? NONE : r[1];
    }

    private TreeSet<Integer> shadeOf(int t) {
        TreeSet<Integer> some = new TreeSet<>();
        ranks().forEach((c, r) -> { if (r[0] < t) some.add(c); });
        return some;
    }

    private int gap(int t) {
        TreeSet<Integer> some = shadeOf(t);
        int least = NONE;
        for (int a : some) for (int b : some)
            if (a != b && (least == NONE || distance(a, b) < least)) least = distance(a, b);
        return least;
    }

    private int hole(int t) {
        TreeSet<Integer> some = shadeOf(t);
        if (some.isEmpty()) return NONE;
        int greatest = 0;
        for (int c : free()) {
            int nearest = Integer.MAX_VALUE;
            for (int s : some) nearest = Math.min(nearest, distance(c, s));
            greatest = Math.max(greatest, nearest);
        }
        return greatest;
    }

    int shade(int t, int what) {
        if (t < 0 || t > free().size() || what != 0 && what != 1) return BAD;
        if (dots.isEmpty()) return STATE;
        return what == 0 ? gap(t) : hole(t);
    }

    int finest(int g) {
        if (g < 0 || g > 999) return BAD;
        if (dots.isEmpty()) return STATE;
        int best = 0;
        for (int t = 0; t <= free().size(); t++) if (gap(t) == NONE || gap(t) >= g) best = t;
        return best;
    }

    // ---- pictures

    int paints(int newBase, int dx, int dy) {
        if (newBase < 0 || newBase > 64 || Math.abs((long) dx) > 9 || Math.abs((long) dy) > 9) return BAD;
        if (dots.isEmpty()) return STATE;
        base = newBase; slopeX = dx; slopeY = dy;
        return print().size();
    }

    private int level(int c) {
        int level = base + c % width * slopeX + c / width * slopeY;
        return level < 0 ? 0 : level > free().size() ? free().size() : level;
    }

    private TreeSet<Integer> print() {
        TreeSet<Integer> some = new TreeSet<>();
        ranks().forEach((c, r) -> { if (r[0] < level(c)) some.add(c); });
        return some;
    }

    int ink(int x, int y) {
        if (outside(x, y)) return BAD;
        if (dots.isEmpty()) return STATE;
        return print().contains(y * width + x) ? 1 : 0;
    }

    int off() {
        if (dots.isEmpty()) return STATE;
        int all = 0;
        for (int c : free()) all += level(c);
        return free().size() * print().size() - all;
    }

    // ---- which shade

    int sees(int line, int n) {
        boolean isLine = line >= 0 && line < height;
        boolean isColumn = line >= 8 && line < 8 + width;
        if (!isLine && !isColumn || n < 0 || n > 8) return BAD;
        if (seen.size() == 6) return FULL;
        seen.add(new int[] {line, n});
        return seen.size();
    }

    int forget() {
        int had = seen.size();
        seen.clear();
        return had;
    }

    int unseen(int what) {
        if (what < 0 || what > 2) return BAD;
        if (dots.isEmpty()) return STATE;
        TreeSet<Integer> fit = new TreeSet<>();
        for (int t = 0; t <= free().size(); t++) {
            TreeSet<Integer> some = shadeOf(t);
            boolean isSo = true;
            for (int[] s : seen) {
                long on = some.stream().filter(c -> s[0] < 8 ? c / width == s[0] : c % width == s[0] - 8).count();
                if (on != s[1]) isSo = false;
            }
            if (isSo) fit.add(t);
        }
        if (what == 0) return fit.size();
        if (fit.isEmpty()) return NONE;
        return what == 1 ? fit.first() : fit.last();
    }

    // ---- images

    int keep(int image) {
        if (image != 0 && image != 1) return BAD;
        images.put(image, new TreeSet<>(dots));
        return dots.size();
    }

    int back(int image) {
        if (image != 0 && image != 1) return BAD;
        if (!images.containsKey(image)) return STATE;
        dots = new TreeSet<>(images.get(image));
        known.clear();
        return dots.size();
    }

    int count(int what) {
        List<Integer> all = Arrays.asList(width, height, free().size(), dots.size(), kernel, power, fall, ax, ay,
            seen.size(), text.length(), known.size());
        return what < 0 || what >= all.size() ? BAD : all.get(what);
    }
}
