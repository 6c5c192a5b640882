import java.util.Arrays;

/**
 * Thresholds for dots, grown on a grid that is wrapped. The words in the comments are those of the document:
 * a CELL goes by its number, a set of CELLS is the bits of a long.
 */
public final class DotThresholds {

    public static final int BAD = -1, STATE = -2, FULL = -3, NONE = -9;

    private static final int SIDE = 8;
    private static final int MOST_CELLS = SIDE * SIDE;
    private static final int NOWHERE = -1;

    private static final int MOST_STEPS = 64;
    private static final int MOST_GAP = 999;
    private static final int MOST_BASE = 64;
    private static final int MOST_SLOPE = 9;
    private static final int FIRST_COLUMN = 8;

    private final Text text;
    private final Plan plan;
    private final Plan draft;
    private final Ground ground;
    private final Hold dots;
    private final Ranks ranks;
    private final Picture picture;
    private final Sights sights;
    private final Past past;
    private final Images images;

    public DotThresholds() {
        text = new Text();
        plan = new Plan();
        draft = new Plan();
        ground = new Ground(plan);
        dots = new Hold(ground);
        ranks = new Ranks(ground);
        picture = new Picture(ground, ranks);
        sights = new Sights(ground, ranks);
        past = new Past();
        images = new Images();
    }

    // ---- the grid

    public int type(int letter) {
        if (letter < 0 || letter > 255) {
            return BAD;
        }
        return text.append(letter) ? text.length : FULL;
    }

    public int clear() {
        int had = text.length;
        text.length = 0;
        return had;
    }

    public int grid() {
        int items = text.readInto(draft);
        if (items < 0) {
            return items;
        }
        text.length = 0;
        plan.become(draft);
        ground.lay();
        dots.begin(plan.dots);
        ranks.drop();
        picture.become(0, 0, 0);
        sights.size = 0;
        past.size = 0;
        images.drop();
        return items;
    }

    public int cell(int x, int y) {
        int c = plan.numberOf(x, y);
        if (c == NOWHERE) {
            return BAD;
        }
        if (has(plan.shut, c)) {
            return 2;
        }
        return has(dots.holders, c) ? 1 : 0;
    }

    public int near(int a, int b, int way) {
        if (!ground.isCell(a) || !ground.isCell(b) || way < 0 || way > 1) {
            return BAD;
        }
        return way == 0 ? ground.distance(a, b) : ground.weight(a, b);
    }

    // ---- what is done

    public int flips(int x, int y) {
        int c = plan.numberOf(x, y);
        if (c == NOWHERE) {
            return BAD;
        }
        if (has(plan.shut, c)) {
            return STATE;
        }
        past.remember(dots.holders);
        dots.flip(c);
        return has(dots.holders, c) ? 1 : 0;
    }

    public int rests(int n) {
        if (n < 1 || n > MOST_STEPS) {
            return BAD;
        }
        if (noDots()) {
            return STATE;
        }
        past.remember(dots.holders);
        int steps = 0;
        while (steps < n && restStep()) {
            steps++;
        }
        return steps;
    }

    public int moves(int from, int to) {
        if (!ground.isCell(from) || !ground.isCell(to)) {
            return BAD;
        }
        if (!has(dots.holders, from) || !has(emptyCells(), to)) {
            return STATE;
        }
        past.remember(dots.holders);
        int before = dots.pairs();
        dots.flip(from);
        dots.flip(to);
        return dots.pairs() - before;
    }

    public int undo() {
        if (past.size == 0) {
            return STATE;
        }
        dots.become(past.latest());
        return past.size;
    }

    // ---- how dots hold

    public int held(int x, int y) {
        int c = plan.numberOf(x, y);
        return c == NOWHERE ? BAD : dots.sumAt(c);
    }

    public int extreme(int what) {
        if (what < 0 || what > 1) {
            return BAD;
        }
        int c = what == 0 ? dots.most(dots.holders) : dots.least(emptyCells());
        return c == NOWHERE ? NONE : c;
    }

    public int energy() {
        return dots.pairs();
    }

    public int better(int what) {
        if (what < 0 || what > 2) {
            return BAD;
        }
        int move = bestMove();
        if (move == NOWHERE) {
            return what == 0 ? 0 : NONE;
        }
        int dot = move / MOST_CELLS;
        int cell = move % MOST_CELLS;
        if (what == 0) {
            return gain(dot, cell);
        }
        return what == 1 ? dot : cell;
    }

    public int shifts() {
        int found = 0;
        for (int dy = 0; dy < plan.height; dy++) {
            for (int dx = 0; dx < plan.width; dx++) {
                if (ground.lieOnThemselves(dots.holders, dx, dy) && ground.lieOnThemselves(plan.shut, dx, dy)) {
                    found++;
                }
            }
        }
        return found;
    }

    // ---- ranks and shades

    public int rank(int x, int y) {
        int c = numberWithRanks(x, y);
        if (c < 0) {
            return c;
        }
        return has(plan.shut, c) ? NONE : ranksNow().rankOf(c);
    }

    public int ranked(int rank) {
        if (rank < 0 || rank >= ground.freeCount) {
            return BAD;
        }
        return noDots() ? STATE : ranksNow().cellOf(rank);
    }

    public int stage(int x, int y) {
        int c = numberWithRanks(x, y);
        if (c < 0) {
            return c;
        }
        return has(plan.shut, c) ? NONE : ranksNow().stageOf(c);
    }

    public int shade(int t, int what) {
        if (t < 0 || t > ground.freeCount || what < 0 || what > 1) {
            return BAD;
        }
        if (noDots()) {
            return STATE;
        }
        return what == 0 ? ranksNow().gapOf(t) : ranksNow().holeOf(t);
    }

    public int finest(int g) {
        if (g < 0 || g > MOST_GAP) {
            return BAD;
        }
        return noDots() ? STATE : ranksNow().finestOf(g);
    }

    // ---- pictures

    public int paints(int base, int dx, int dy) {
        if (base < 0 || base > MOST_BASE || !isSlope(dx) || !isSlope(dy)) {
            return BAD;
        }
        if (noDots()) {
            return STATE;
        }
        picture.become(base, dx, dy);
        return pictureNow().printed();
    }

    public int ink(int x, int y) {
        int c = numberWithRanks(x, y);
        if (c < 0) {
            return c;
        }
        return pictureNow().prints(c) ? 1 : 0;
    }

    public int off() {
        return noDots() ? STATE : pictureNow().farOff();
    }

    // ---- which shade

    public int sees(int line, int n) {
        if (!isLine(line) || n < 0 || n > SIDE) {
            return BAD;
        }
        return sights.append(line, n) ? sights.size : FULL;
    }

    public int forget() {
        int had = sights.size;
        sights.size = 0;
        return had;
    }

    public int unseen(int what) {
        if (what < 0 || what > 2) {
            return BAD;
        }
        if (noDots()) {
            return STATE;
        }
        ranksNow();
        if (what == 0) {
            return sights.shadesThatFit();
        }
        return what == 1 ? sights.leastThatFits() : sights.greatestThatFits();
    }

    // ---- images

    public int keep(int image) {
        if (!images.isImage(image)) {
            return BAD;
        }
        images.put(image, dots.holders);
        return dots.size();
    }

    public int back(int image) {
        if (!images.isImage(image)) {
            return BAD;
        }
        if (!images.isKept(image)) {
            return STATE;
        }
        dots.become(images.dotsOf(image));
        past.size = 0;
        return dots.size();
    }

    public int count(int what) {
        switch (what) {
            case 0: return plan.width;
            case 1: return plan.height;
            case 2: return ground.freeCount;
            case 3: return dots.size();
            case 4: return plan.kernel;
            case 5: return plan.power;
            case 6: return plan.fall;
            case 7: return plan.ax;
            case 8: return plan.ay;
            case 9: return sights.size;
            case 10: return text.length;
            case 11: return past.size;
            default: return BAD;
        }
    }

    // ---- what the calls share

    private static boolean has(long cells, int c) {
        return (cells >>> c & 1L) != 0;
    }

    private static boolean isSlope(int slope) {
        return slope >= -MOST_SLOPE && slope <= MOST_SLOPE;
    }

    private boolean isLine(int line) {
        if (line < FIRST_COLUMN) {
            return line >= 0 && line < plan.height;
        }
        return line - FIRST_COLUMN < plan.width;
    }

    private boolean noDots() {
        return dots.holders == 0;
    }

    /** A CELL's number, or why what hangs on RANKS is refused there. */
    private int numberWithRanks(int x, int y) {
        int c = plan.numberOf(x, y);
        if (c == NOWHERE) {
            return BAD;
        }
        return noDots() ? STATE : c;
    }

    private long emptyCells() {
        return ground.free & ~dots.holders;
    }

    private Ranks ranksNow() {
        ranks.standFor(dots.holders);
        return ranks;
    }

    private Picture pictureNow() {
        ranks.standFor(dots.holders);
        return picture;
    }

    /** One STEP; whether the DOT came to another CELL. */
    private boolean restStep() {
        int from = dots.most(dots.holders);
        dots.flip(from);
        int to = dots.least(emptyCells());
        dots.flip(to);
        return from != to;
    }

    /** By how much ENERGY is less, if a DOT is MOVED to an empty CELL: it no longer holds that CELL then. */
    private int gain(int dot, int cell) {
        int leaves = dots.sumAt(dot) - ground.weight(dot, dot);
        int meets = dots.sumAt(cell) - ground.weight(dot, cell);
        return leaves - meets;
    }

    /** BETTER, the DOT's number times MOST_CELLS and the CELL's, or NOWHERE. */
    private int bestMove() {
        long empty = emptyCells();
        int best = NOWHERE;
        int most = 0;
        for (int dot = 0; dot < ground.cells; dot++) {
            if (!has(dots.holders, dot)) {
                continue;
            }
            for (int cell = 0; cell < ground.cells; cell++) {
                if (!has(empty, cell)) {
                    continue;
                }
                int gain = gain(dot, cell);
                if (best == NOWHERE || gain > most) {
                    best = dot * MOST_CELLS + cell;
                    most = gain;
                }
            }
        }
        return best;
    }

    /** What a text tells: the grid's measures, the KERNEL, SHUT CELLS, DOTS. */
    private static final class Plan {
        int width;
        int height;
        int kernel;
        int power;
        int fall;
        int ax;
        int ay;
        long shut;
        long dots;

        Plan() {
            reset();
        }

        void reset() {
            width = 4;
            height = 4;
            kernel = 0;
            power = 100;
            fall = 1;
            ax = 1;
            ay = 1;
            shut = 0;
            dots = 0;
        }

        void become(Plan other) {
            width = other.width;
            height = other.height;
            kernel = other.kernel;
            power = other.power;
            fall = other.fall;
            ax = other.ax;
            ay = other.ay;
            shut = other.shut;
            dots = other.dots;
        }

        int numberOf(int x, int y) {
            if (x < 0 || x >= width || y < 0 || y >= height) {
                return NOWHERE;
            }
            return y * width + x;
        }

        /** DISTANCE of two CELLS that lie so many columns and lines from each other, not yet the shorter way. */
        int distanceOf(int columns, int lines) {
            int dx = Math.min(columns, width - columns);
            int dy = Math.min(lines, height - lines);
            return ax * dx * dx + ay * dy * dy;
        }

        int weightOf(int distance) {
            int parts = 1 + distance;
            if (parts < 1) {
                return 0;
            }
            switch (kernel) {
                case 0: return power / parts;
                case 1: return Math.max(0, power - fall * distance);
                // a shift by 32 would be none in Java, and a POWER is 0 long before
                default: return power >> Math.min(distance, 31);
            }
        }
    }

    /** THE TEXT, and how it is read. */
    private static final class Text {
        static final int MOST_LETTERS = 150;
        static final int MOST_NUMBER = 999;
        // kinds of TOKENS that are no letter of their own
        static final int NUMBER = 256;
        static final int WRONG = 257;
        static final int END = 258;

        final int[] letters = new int[MOST_LETTERS];
        int length;
        /** Where the TOKEN begins that is looked at; the text's length at its end: so it is the FAULT, if it is one. */
        int place;
        int next;
        int token;
        int value;

        boolean append(int letter) {
            if (length < 0 || length >= letters.length) {
                return false;
            }
            letters[length] = letter;
            length++;
            return true;
        }

        /** How many ITEMS, or -10 less FAULT: then the plan is of no use. */
        int readInto(Plan plan) {
            plan.reset();
            next = 0;
            step();
            int items = 0;
            while (token != END && items < MOST_LETTERS) {
                if (!readItem(plan, items == 0)) {
                    return -10 - place;
                }
                items++;
                step();
            }
            return items;
        }

        private boolean readItem(Plan plan, boolean isFirst) {
            boolean fits;
            switch (token) {
                case 'g': fits = isFirst && readMeasures(plan); break;
                case 'k': fits = readKernel(plan); break;
                case 'a': fits = readStretch(plan); break;
                case 's': fits = readCell(plan, true); break;
                case 'd': fits = readCell(plan, false); break;
                default: fits = false;
            }
            if (!fits) {
                return false;
            }
            step();
            return token == ';';
        }

        private boolean readMeasures(Plan plan) {
            if (!stepToNumber(1, SIDE)) {
                return false;
            }
            plan.width = value;
            if (!stepToNumber(1, SIDE)) {
                return false;
            }
            plan.height = value;
            return true;
        }

        private boolean readKernel(Plan plan) {
            if (!stepToNumber(0, 2)) {
                return false;
            }
            plan.kernel = value;
            if (!stepToNumber(1, MOST_NUMBER)) {
                return false;
            }
            plan.power = value;
            if (!stepToNumber(1, 99)) {
                return false;
            }
            plan.fall = value;
            return true;
        }

        private boolean readStretch(Plan plan) {
            if (!stepToNumber(1, 4)) {
                return false;
            }
            plan.ax = value;
            if (!stepToNumber(1, 4)) {
                return false;
            }
            plan.ay = value;
            return true;
        }

        /** A CELL that is told to be SHUT or to have a DOT; it may be neither so far. */
        private boolean readCell(Plan plan, boolean isShut) {
            if (!stepToNumber(0, plan.width - 1)) {
                return false;
            }
            int x = value;
            if (!stepToNumber(0, plan.height - 1)) {
                return false;
            }
            int c = plan.numberOf(x, value);
            if (c == NOWHERE || has(plan.shut | plan.dots, c)) {
                return false;
            }
            if (isShut) {
                plan.shut |= 1L << c;
            } else {
                plan.dots |= 1L << c;
            }
            return true;
        }

        private boolean stepToNumber(int least, int greatest) {
            step();
            return token == NUMBER && value >= least && value <= greatest;
        }

        private void step() {
            while (next < length && letters[next] == ' ') {
                next++;
            }
            place = next;
            if (next >= length) {
                token = END;
                return;
            }
            token = letters[next];
            next++;
            if (isDigit(token)) {
                readDigits(token - '0');
            }
        }

        private void readDigits(int first) {
            value = first;
            while (next < length && isDigit(letters[next])) {
                // held down, so that no run of digits, however long, comes round to a small number
                value = Math.min(10 * value + letters[next] - '0', MOST_NUMBER + 1);
                next++;
            }
            boolean zeroAhead = first == 0 && next > place + 1;
            token = zeroAhead || value > MOST_NUMBER ? WRONG : NUMBER;
        }

        private static boolean isDigit(int letter) {
            return letter >= '0' && letter <= '9';
        }
    }

    /** The wrapped grid as it is laid by a plan: where CELLS are, how far from each other. */
    private static final class Ground {
        final Plan plan;
        final int[] columns = new int[MOST_CELLS];
        final int[] lines = new int[MOST_CELLS];
        // by how many lines (times SIDE) and columns two CELLS lie from each other
        final int[] distances = new int[MOST_CELLS];
        final int[] weights = new int[MOST_CELLS];
        int cells;
        long free;
        int freeCount;

        Ground(Plan plan) {
            this.plan = plan;
            lay();
        }

        void lay() {
            cells = 0;
            for (int y = 0; y < plan.height && y < SIDE; y++) {
                for (int x = 0; x < plan.width && x < SIDE; x++) {
                    columns[cells] = x;
                    lines[cells] = y;
                    cells++;
                    int distance = plan.distanceOf(x, y);
                    distances[SIDE * y + x] = distance;
                    weights[SIDE * y + x] = plan.weightOf(distance);
                }
            }
            // the lowest bits, as many as there are CELLS; 1L << 64 would not do for all of them
            free = -1L >>> (MOST_CELLS - cells) & ~plan.shut;
            freeCount = Long.bitCount(free);
        }

        boolean isCell(int c) {
            return c >= 0 && c < cells;
        }

        int columnOf(int c) {
            return isCell(c) ? columns[c] : 0;
        }

        int lineOf(int c) {
            return isCell(c) ? lines[c] : 0;
        }

        int distance(int a, int b) {
            if (!isCell(a) || !isCell(b)) {
                return 0;
            }
            return distances[SIDE * Math.abs(lines[a] - lines[b]) + Math.abs(columns[a] - columns[b])];
        }

        int weight(int a, int b) {
            if (!isCell(a) || !isCell(b)) {
                return 0;
            }
            return weights[SIDE * Math.abs(lines[a] - lines[b]) + Math.abs(columns[a] - columns[b])];
        }

        /** Whether a set of CELLS, shifted, is the same set. */
        boolean lieOnThemselves(long set, int dx, int dy) {
            for (int c = 0; c < cells; c++) {
                int x = wrapped(columns[c] + dx, plan.width);
                int y = wrapped(lines[c] + dy, plan.height);
                if (has(set, c) != has(set, plan.numberOf(x, y))) {
                    return false;
                }
            }
            return true;
        }

        private static int wrapped(int along, int size) {
            return along < size ? along : along - size;
        }
    }

    /** A set of CELLS that hold (DOTS, or those without one), and how much each CELL is HELD by them. */
    private static final class Hold {
        final Ground ground;
        final int[] sums = new int[MOST_CELLS];
        long holders;

        Hold(Ground ground) {
            this.ground = ground;
        }

        /** As become(), but nothing that was held before counts: the ground may be another one. */
        void begin(long cells) {
            Arrays.fill(sums, 0);
            holders = 0;
            become(cells);
        }

        void become(long cells) {
            long unlike = holders ^ cells;
            for (int c = 0; c < ground.cells; c++) {
                if (has(unlike, c)) {
                    flip(c);
                }
            }
        }

        void flip(int c) {
            if (!ground.isCell(c)) {
                return;
            }
            int sign = has(holders, c) ? -1 : 1;
            holders ^= 1L << c;
            for (int other = 0; other < ground.cells; other++) {
                sums[other] += sign * ground.weight(c, other);
            }
        }

        int size() {
            return Long.bitCount(holders);
        }

        int sumAt(int c) {
            return ground.isCell(c) ? sums[c] : 0;
        }

        /** Of these CELLS the one that is HELD most, of several the lowest; NOWHERE, if there are none. */
        int most(long among) {
            return farthest(among, 1);
        }

        /** The one that is HELD least. */
        int least(long among) {
            return farthest(among, -1);
        }

        private int farthest(long among, int sign) {
            int best = NOWHERE;
            int bestSum = 0;
            for (int c = 0; c < ground.cells; c++) {
                int sum = sign * sums[c];
                if (has(among, c) && (best == NOWHERE || sum > bestSum)) {
                    best = c;
                    bestSum = sum;
                }
            }
            return best;
        }

        /** WEIGHTS of all pairs of unlike ones. */
        int pairs() {
            int twice = 0;
            for (int c = 0; c < ground.cells; c++) {
                if (has(holders, c)) {
                    twice += sums[c] - ground.weight(c, c);
                }
            }
            return twice / 2;
        }
    }

    /** RANKS of all FREE CELLS for a set of DOTS, and the SHADES they make. */
    private static final class Ranks {
        final Ground ground;
        final Hold hold;
        final int[] order = new int[MOST_CELLS];
        final int[] places = new int[MOST_CELLS];
        /** The DOTS by which RANKS stand; no DOTS: none stand. */
        long madeBy;
        int thinned;
        int filled;

        Ranks(Ground ground) {
            this.ground = ground;
            hold = new Hold(ground);
        }

        void drop() {
            madeBy = 0;
        }

        void standFor(long dots) {
            if (madeBy == dots) {
                return;
            }
            madeBy = dots;
            hold.begin(dots);
            thin();
            hold.begin(dots);
            fill();
            hold.begin(ground.free & ~hold.holders);
            turn();
        }

        private void thin() {
            thinned = hold.size();
            for (int rank = thinned - 1; rank >= 0; rank--) {
                give(hold.most(hold.holders), rank);
            }
        }

        private void fill() {
            filled = Math.max(thinned, (ground.freeCount + 1) / 2);
            for (int rank = thinned; rank < filled; rank++) {
                give(hold.least(ground.free & ~hold.holders), rank);
            }
        }

        private void turn() {
            for (int rank = filled; rank < ground.freeCount; rank++) {
                give(hold.most(hold.holders), rank);
            }
        }

        private void give(int c, int rank) {
            if (!ground.isCell(c) || rank < 0 || rank >= order.length) {
                return;
            }
            order[rank] = c;
            places[c] = rank;
            hold.flip(c);
        }

        int rankOf(int c) {
            return ground.isCell(c) ? places[c] : NONE;
        }

        int cellOf(int rank) {
            return rank >= 0 && rank < ground.freeCount ? order[rank] : NONE;
        }

        int stageOf(int c) {
            int rank = rankOf(c);
            if (rank < thinned) {
                return 0;
            }
            return rank < filled ? 1 : 2;
        }

        int gapOf(int t) {
            int gap = NONE;
            for (int rank = 1; rank < t; rank++) {
                int nearest = nearestOf(cellOf(rank), rank);
                if (gap == NONE || nearest < gap) {
                    gap = nearest;
                }
            }
            return gap;
        }

        int holeOf(int t) {
            if (t < 1) {
                return NONE;
            }
            int hole = 0;
            for (int c = 0; c < ground.cells; c++) {
                if (has(ground.free, c)) {
                    hole = Math.max(hole, nearestOf(c, t));
                }
            }
            return hole;
        }

        /** A GAP never grows from one SHADE to the next, so the first that is too small ends it. */
        int finestOf(int g) {
            for (int rank = 1; rank < ground.freeCount; rank++) {
                if (nearestOf(cellOf(rank), rank) < g) {
                    return rank;
                }
            }
            return ground.freeCount;
        }

        /** The least DISTANCE of a CELL from those of SHADE t, which has one at least. */
        private int nearestOf(int c, int t) {
            int nearest = ground.distance(c, cellOf(0));
            for (int rank = 1; rank < t; rank++) {
                nearest = Math.min(nearest, ground.distance(c, cellOf(rank)));
            }
            return nearest;
        }
    }

    /** A PICTURE and its PRINT; RANKS must stand. */
    private static final class Picture {
        final Ground ground;
        final Ranks ranks;
        int base;
        int dx;
        int dy;

        Picture(Ground ground, Ranks ranks) {
            this.ground = ground;
            this.ranks = ranks;
        }

        void become(int newBase, int newDx, int newDy) {
            base = newBase;
            dx = newDx;
            dy = newDy;
        }

        private int levelOf(int c) {
            int level = base + ground.columnOf(c) * dx + ground.lineOf(c) * dy;
            return Math.max(0, Math.min(level, ground.freeCount));
        }

        boolean prints(int c) {
            return has(ground.free, c) && ranks.rankOf(c) < levelOf(c);
        }

        int printed() {
            int found = 0;
            for (int c = 0; c < ground.cells; c++) {
                if (prints(c)) {
                    found++;
                }
            }
            return found;
        }

        int farOff() {
            int levels = 0;
            for (int c = 0; c < ground.cells; c++) {
                if (has(ground.free, c)) {
                    levels += levelOf(c);
                }
            }
            return ground.freeCount * printed() - levels;
        }
    }

    /** What was SEEN of an unknown SHADE; RANKS must stand where SHADES are asked for. */
    private static final class Sights {
        static final int MOST_SIGHTS = 6;

        final Ground ground;
        final Ranks ranks;
        final int[] lines = new int[MOST_SIGHTS];
        final int[] counts = new int[MOST_SIGHTS];
        int size;

        Sights(Ground ground, Ranks ranks) {
            this.ground = ground;
            this.ranks = ranks;
        }

        boolean append(int line, int n) {
            if (size < 0 || size >= MOST_SIGHTS) {
                return false;
            }
            lines[size] = line;
            counts[size] = n;
            size++;
            return true;
        }

        int shadesThatFit() {
            int found = 0;
            for (int t = 0; t <= ground.freeCount; t++) {
                if (fits(t)) {
                    found++;
                }
            }
            return found;
        }

        int leastThatFits() {
            for (int t = 0; t <= ground.freeCount; t++) {
                if (fits(t)) {
                    return t;
                }
            }
            return NONE;
        }

        int greatestThatFits() {
            for (int t = ground.freeCount; t >= 0; t--) {
                if (fits(t)) {
                    return t;
                }
            }
            return NONE;
        }

        private boolean fits(int t) {
            for (int i = 0; i < size; i++) {
                if (cellsOn(lines[i], t) != counts[i]) {
                    return false;
                }
            }
            return true;
        }

        private int cellsOn(int line, int t) {
            int found = 0;
            for (int rank = 0; rank < t; rank++) {
                int c = ranks.cellOf(rank);
                int its = line < FIRST_COLUMN ? ground.lineOf(c) : FIRST_COLUMN + ground.columnOf(c);
                if (its == line) {
                    found++;
                }
            }
            return found;
        }
    }

    /** DOTS as they were ahead of the latest things done. */
    private static final class Past {
        static final int MOST_KNOWN = 10;

        final long[] known = new long[MOST_KNOWN];
        int size;

        void remember(long dots) {
            if (size >= MOST_KNOWN) {
                System.arraycopy(known, 1, known, 0, MOST_KNOWN - 1);
                size = MOST_KNOWN - 1;
            }
            known[size] = dots;
            size++;
        }

        /** The latest ones, which are known no longer then; there must be some. */
        long latest() {
            if (size < 1) {
                return 0;
            }
            size--;
            return known[size];
        }
    }

    /** IMAGES that were kept. */
    private static final class Images {
        static final int MOST_IMAGES = 2;

        final long[] dots = new long[MOST_IMAGES];
        final boolean[] kept = new boolean[MOST_IMAGES];

        boolean isImage(int image) {
            return image >= 0 && image < MOST_IMAGES;
        }

        boolean isKept(int image) {
            return isImage(image) && kept[image];
        }

        void put(int image, long newDots) {
            if (isImage(image)) {
                dots[image] = newDots;
                kept[image] = true;
            }
        }

        long dotsOf(int image) {
            return isImage(image) ? dots[image] : 0;
        }

        void drop() {
            for (int image = 0; image < MOST_IMAGES; image++) {
                kept[image] = false;
            }
        }
    }
}
