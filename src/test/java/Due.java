/** What the tests share: answers that are due, and objects that a text has been told. */
final class Due {
    static final int BAD = -1, STATE = -2, FULL = -3, NONE = -9;

    private final String test;
    private int seen;
    private int wrong;

    Due(String test) {
        this.test = test;
    }

    void due(String call, long got, long want) {
        seen++;
        if (got != want) {
            wrong++;
            System.out.println(test + ": " + call + " answered " + got + ", due is " + want);
        }
    }

    /** Ends the machine with 1, if an answer was wrong or none was looked at. */
    void end() {
        System.out.println(test + ": " + seen + " answers, " + wrong + " of them wrong");
        if (wrong != 0 || seen == 0) {
            System.exit(1);
        }
    }

    static void types(DotThresholds x, String text) {
        for (int i = 0; i < text.length(); i++) {
            x.type(text.charAt(i));
        }
    }

    /** What grid() answers to a text on an object whose text was empty. */
    static int reads(DotThresholds x, String text) {
        x.clear();
        types(x, text);
        return x.grid();
    }

    static DotThresholds told(String text) {
        DotThresholds x = new DotThresholds();
        int items = reads(x, text);
        if (items < 0) {
            throw new IllegalStateException("the test's own text is wrong: " + text + " " + items);
        }
        return x;
    }

    /** All CELLS, line by line: . empty, o a DOT, x SHUT. */
    static String shown(DotThresholds x) {
        StringBuilder all = new StringBuilder();
        int width = x.count(0), height = x.count(1);
        for (int y = 0; y < height; y++) {
            for (int i = 0; i < width; i++) {
                all.append(".ox".charAt(x.cell(i, y)));
            }
            all.append('/');
        }
        return all.toString();
    }

    void shows(String when, DotThresholds x, String want) {
        String got = shown(x);
        seen++;
        if (!got.equals(want)) {
            wrong++;
            System.out.println(test + ": " + when + " the cells are " + got + ", due is " + want);
        }
    }
}
