import java.util.Arrays;

/** Makes objects with lists in them, looking at each answer on the way, and keeps the arguments that are wrong. */
final class Tables {
    static final int LEAST = Integer.MIN_VALUE;
    static final int MOST = Integer.MAX_VALUE;

    // Beside the nearest and the farthest ones: those that a mask, a narrow
    // type or a place counted from another list would take for good ones.
    static final int[] NO_PATTERN = {-1, -2, -4, 4, 5, 7, 8, 32, 256, 65536, LEAST, LEAST + 1, MOST - 1, MOST};
    static final int[] NO_TOKEN = {-1, -2, -8, 8, 9, 15, 16, 256, 65536, LEAST, LEAST + 1, MOST - 1, MOST};
    static final int[] NO_OPERATOR = {-1, -2, -8, 7, 8, 9, 16, 256, 65536, LEAST, LEAST + 1, MOST - 1, MOST};
    static final int[] NO_NODE = {-1, -2, -9, -36, 25, 26, 32, 61, 256, 65536, LEAST, LEAST + 1, MOST - 1, MOST};

    static final int[] EMPTY = {};
    static final int[] GAP = {7};

    // The longest lists, complete and not.
    static final int[] WIDE_NINE = {0, 0, 0, 0, 7, 7, 7, 7, 7};
    static final int[] DEEP_NINE = then(repeat(2, 8), 7);
    static final int[] NINE_LACKING_ONE = {2, 0, 0, 0, 0, 7, 7, 7, 7};
    static final int[] NINE_LACKING_TEN = repeat(1, 9);
    static final int[] WIDE_25 = then(repeat(0, 12), repeat(4, 13));
    static final int[] DEEP_25 = then(repeat(2, 24), 4);
    static final int[] SUBJECT_25_LACKING_ONE = repeat(3, 25);
    static final int[] SUBJECT_25_LACKING_MANY = repeat(1, 25);

    private final Checks checks;

    Tables(Checks checks) {
        this.checks = checks;
    }

    static int[] repeat(int value, int times) {
        int[] list = new int[times];
        Arrays.fill(list, value);
        return list;
    }

    static int[] then(int[] list, int... more) {
        int[] all = Arrays.copyOf(list, list.length + more.length);
        System.arraycopy(more, 0, all, list.length, more.length);
        return all;
    }

    void pattern(PatternTables x, int p, int... tokens) {
        for (int i = 0; i < tokens.length; i++) {
            checks.due("extend(" + p + ", " + tokens[i] + ")", i + 1, x.extend(p, tokens[i]));
        }
    }

    void subject(PatternTables x, int... ops) {
        for (int i = 0; i < ops.length; i++) {
            checks.due("grow(" + ops[i] + ")", i + 1, x.grow(ops[i]));
        }
    }

    /** A new object with this subject and these patterns, from 0 on. */
    PatternTables table(int[] subject, int[]... patterns) {
        PatternTables x = new PatternTables();
        for (int p = 0; p < patterns.length; p++) {
            pattern(x, p, patterns[p]);
        }
        subject(x, subject);
        return x;
    }

    /** The same pattern four times. */
    PatternTables four(int[] subject, int[] pattern) {
        return table(subject, pattern, pattern, pattern, pattern);
    }

    static int[] list(int... values) {
        return values;
    }
}
