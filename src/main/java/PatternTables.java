/** Finds where patterns fit in a tree. */
public final class PatternTables {
    public static final int NONE = -1;
    public static final int FULL = -2;

    private static final int PATTERNS = 4;
    private static final int PATTERN_ROOM = 9;
    private static final int SUBJECT_ROOM = 25;
    private static final int OPERATORS = 7;
    private static final int GAP = 7;
    private static final int TOKENS = 8;

    // The subject is kept as one more list behind the patterns, so that one
    // walk serves a pattern laid on the subject and one laid on a pattern.
    // Hence the cells: four times nine for the patterns, then 25.
    private static final int SUBJECT = 4;
    private static final int LISTS = 5;
    private static final int CELLS = 61;

    private final int[] cells = new int[CELLS];
    private final int[] lengths = new int[LISTS];

    public PatternTables() {
    }

    public int extend(int p, int token) {
        if (!isPattern(p) || token < 0 || token >= TOKENS) {
            return NONE;
        }
        return append(p, PATTERN_ROOM, token);
    }

    public int shorten(int p) {
        return isPattern(p) ? takeLast(p) : NONE;
    }

    public int grow(int op) {
        if (op < 0 || op >= OPERATORS) {
            return NONE;
        }
        return append(SUBJECT, SUBJECT_ROOM, op);
    }

    public int prune() {
        return takeLast(SUBJECT);
    }

    public boolean complete(int p) {
        return isPattern(p) && isComplete(p);
    }

    public boolean whole() {
        return isComplete(SUBJECT);
    }

    public int fitsAt(int n) {
        int set = 0;
        for (int p = 0; p < PATTERNS; p++) {
            if (fits(p, SUBJECT, n)) {
                set |= 1 << p;
            }
        }
        return set;
    }

    public int count(int p) {
        if (!isPattern(p)) {
            return 0;
        }
        int found = 0;
        for (int n = 0; n < lengths[SUBJECT]; n++) {
            if (fits(p, SUBJECT, n)) {
                found++;
            }
        }
        return found;
    }

    public int next(int p, int n) {
        if (!isPattern(p)) {
            return NONE;
        }
        int first = n < 0 ? 0 : n;
        for (int node = first; node < lengths[SUBJECT]; node++) {
            if (fits(p, SUBJECT, node)) {
                return node;
            }
        }
        return NONE;
    }

    public int gapAt(int p, int n, int k) {
        if (!isPattern(p) || !fits(p, SUBJECT, n)) {
            return NONE;
        }
        int gaps = 0;
        int place = n;
        for (int i = 0; i < lengths[p]; i++) {
            if (tokenAt(p, i) != GAP) {
                place++;
            } else if (gaps == k) {
                return place;
            } else {
                gaps++;
                place = partEnd(SUBJECT, place);
            }
        }
        return NONE;
    }

    public int size(int n) {
        if (!whole() || !isNode(SUBJECT, n)) {
            return NONE;
        }
        return partEnd(SUBJECT, n) - n;
    }

    public boolean equal(int m, int n) {
        int length = size(m);
        if (length == NONE || length != size(n)) {
            return false;
        }
        for (int i = 0; i < length; i++) {
            if (tokenAt(SUBJECT, m + i) != tokenAt(SUBJECT, n + i)) {
                return false;
            }
        }
        return true;
    }

    public int kinds() {
        if (!whole()) {
            return 0;
        }
        int seen = 0;
        int found = 0;
        for (int n = 0; n < lengths[SUBJECT]; n++) {
            int kind = 1 << fitsAt(n);
            if ((seen & kind) == 0) {
                seen |= kind;
                found++;
            }
        }
        return found;
    }

    // A gap of q may get a tree with any operator at its head, so only a gap
    // of p can answer for it: p covers q just when p fits q itself, the gaps
    // of q being taken as operators that p never names.
    public boolean covers(int p, int q) {
        return isPattern(p) && isPattern(q) && fits(p, q, 0);
    }

    public int bare() {
        if (!whole()) {
            return 0;
        }
        int found = 0;
        for (int n = 0; n < lengths[SUBJECT]; n++) {
            if (fitsAt(n) == 0) {
                found++;
            }
        }
        return found;
    }

    private static boolean isPattern(int p) {
        return p >= 0 && p < PATTERNS;
    }

    private static int partsOf(int token) {
        if (token == 0 || token == 1) {
            return 2;
        }
        return token == 2 || token == 3 ? 1 : 0;
    }

    private boolean isNode(int list, int n) {
        return n >= 0 && n < lengths[list];
    }

    private int tokenAt(int list, int n) {
        return isNode(list, n) ? cells[list * PATTERN_ROOM + n] : NONE;
    }

    private int append(int list, int room, int token) {
        int length = lengths[list];
        if (length >= room || isComplete(list)) {
            return FULL;
        }
        cells[list * PATTERN_ROOM + length] = token;
        lengths[list] = length + 1;
        return length + 1;
    }

    private int takeLast(int list) {
        if (lengths[list] == 0) {
            return NONE;
        }
        int last = lengths[list] - 1;
        int token = tokenAt(list, last);
        lengths[list] = last;
        return token;
    }

    // A complete list takes no more tokens, so no list ever goes on past its
    // first whole tree: it is enough that no part is still missing at the end.
    private boolean isComplete(int list) {
        int missing = 1;
        for (int n = 0; n < lengths[list]; n++) {
            int token = tokenAt(list, n);
            missing += partsOf(token) - 1;
        }
        return missing == 0;
    }

    private int partEnd(int list, int n) {
        int missing = 1;
        int end = n;
        while (missing > 0 && end < lengths[list]) {
            int token = tokenAt(list, end);
            missing += partsOf(token) - 1;
            end++;
        }
        return end;
    }

    private boolean fits(int p, int list, int n) {
        if (!isNode(list, n) || !isComplete(p) || !isComplete(list)) {
            return false;
        }
        int place = n;
        for (int i = 0; i < lengths[p]; i++) {
            int token = tokenAt(p, i);
            if (token == GAP) {
                place = partEnd(list, place);
            } else if (token == tokenAt(list, place)) {
                place++;
            } else {
                return false;
            }
        }
        return true;
    }
}
