/** One method for each promise of the document: ordinary inputs, edges, wrong inputs. */
public final class PromiseTest {
    private static final int NONE = -1;
    private static final int FULL = -2;
    private static final int LEAST = Tables.LEAST;
    private static final int MOST = Tables.MOST;
    private static final Checks checks = new Checks();
    private static final Tables make = new Tables(checks);

    public static void main(String[] args) {
        newObject();
        extend();
        shorten();
        grow();
        prune();
        complete();
        whole();
        fitsAt();
        count();
        next();
        gapAt();
        size();
        equal();
        kinds();
        covers();
        bare();
        orderAndLimits();
        independentObjects();
        checks.end();
    }

    /** The subject 0 (2 4) (1 (2 4) 5) under the patterns 0 _ _, 2 _, 1 (2 4) _ and 2 4. */
    private static PatternTables sample() {
        PatternTables x = new PatternTables();
        make.pattern(x, 0, 0, 7, 7);
        make.pattern(x, 1, 2, 7);
        make.pattern(x, 2, 1, 2, 4, 7);
        make.pattern(x, 3, 2, 4);
        make.subject(x, 0, 2, 4, 1, 2, 4, 5);
        return x;
    }

    private static void newObject() {
        checks.topic("promise 1");
        checks.due("NONE", NONE, PatternTables.NONE);
        checks.due("FULL", FULL, PatternTables.FULL);
        PatternTables x = new PatternTables();
        for (int p = 0; p < 4; p++) {
            checks.due("complete(" + p + ")", false, x.complete(p));
            checks.due("shorten(" + p + ")", NONE, x.shorten(p));
            checks.due("count(" + p + ")", 0, x.count(p));
            checks.due("next(" + p + ", 0)", NONE, x.next(p, 0));
            checks.due("gapAt(" + p + ", 0, 0)", NONE, x.gapAt(p, 0, 0));
            checks.due("covers(" + p + ", " + p + ")", false, x.covers(p, p));
        }
        checks.due("whole()", false, x.whole());
        checks.due("prune()", NONE, x.prune());
        checks.due("fitsAt(0)", 0, x.fitsAt(0));
        checks.due("size(0)", NONE, x.size(0));
        checks.due("equal(0, 0)", false, x.equal(0, 0));
        checks.due("kinds()", 0, x.kinds());
        checks.due("bare()", 0, x.bare());
        for (int p = 0; p < 4; p++) {
            checks.due("first extend", 1, x.extend(p, 0));
        }
        checks.due("first grow", 1, x.grow(0));
    }

    private static void extend() {
        checks.topic("promise 2");
        for (int p = 0; p < 4; p++) {
            PatternTables x = new PatternTables();
            make.pattern(x, p, 0, 2, 4, 1, 3, 7, 5);
            for (int token = 0; token < 8; token++) {
                checks.due("extend of a complete one", FULL, x.extend(p, token));
            }
            checks.due("last token", 5, x.shorten(p));
            checks.due("extend again", 7, x.extend(p, 6));
        }
        for (int token = 0; token < 8; token++) {
            PatternTables x = new PatternTables();
            checks.due("first token", 1, x.extend(2, token));
            checks.due("second token", token < 4 ? 2 : FULL, x.extend(2, 7));
        }
        PatternTables deep = new PatternTables();
        make.pattern(deep, 3, Tables.repeat(2, 9));
        checks.due("extend of nine", FULL, deep.extend(3, 4));
        checks.due("complete(3)", false, deep.complete(3));
        PatternTables wide = new PatternTables();
        make.pattern(wide, 0, 0, 0, 0, 0, 7, 7, 7, 7, 7);
        checks.due("complete(0)", true, wide.complete(0));
        checks.due("extend of nine, complete", FULL, wide.extend(0, 7));
        PatternTables x = new PatternTables();
        for (int p : Tables.NO_PATTERN) {
            checks.due("extend(" + p + ", 4)", NONE, x.extend(p, 4));
        }
        for (int token : Tables.NO_TOKEN) {
            checks.due("extend(0, " + token + ")", NONE, x.extend(0, token));
        }
        checks.due("nothing appended", 1, x.extend(0, 0));
        checks.due("subject left alone", NONE, x.prune());
    }

    private static void shorten() {
        checks.topic("promise 3");
        int[] tokens = {0, 1, 2, 3, 4, 5, 0, 6, 7};
        for (int p = 0; p < 4; p++) {
            PatternTables x = new PatternTables();
            make.pattern(x, p, tokens);
            for (int i = tokens.length - 1; i >= 0; i--) {
                checks.due("shorten(" + p + ")", tokens[i], x.shorten(p));
                checks.due("complete(" + p + ")", false, x.complete(p));
            }
            checks.due("shorten(" + p + ") of none", NONE, x.shorten(p));
            checks.due("extend after it", 1, x.extend(p, 7));
            checks.due("complete after it", true, x.complete(p));
        }
        PatternTables x = new PatternTables();
        make.pattern(x, 0, 4);
        make.pattern(x, 3, 5);
        make.subject(x, 6);
        for (int p : Tables.NO_PATTERN) {
            checks.due("shorten(" + p + ")", NONE, x.shorten(p));
        }
        checks.due("shorten(1), empty", NONE, x.shorten(1));
        checks.due("whole()", true, x.whole());
        checks.due("shorten(0)", 4, x.shorten(0));
        checks.due("shorten(3)", 5, x.shorten(3));
    }

    private static void grow() {
        checks.topic("promise 4");
        for (int op = 0; op < 7; op++) {
            PatternTables x = new PatternTables();
            checks.due("first operator", 1, x.grow(op));
            checks.due("second operator", op < 4 ? 2 : FULL, x.grow(6));
        }
        PatternTables deep = new PatternTables();
        make.subject(deep, Tables.repeat(3, 25));
        checks.due("grow of 25", FULL, deep.grow(4));
        checks.due("whole()", false, deep.whole());
        checks.due("prune()", 3, deep.prune());
        checks.due("grow of 24", 25, deep.grow(4));
        checks.due("whole()", true, deep.whole());
        checks.due("grow of 25, complete", FULL, deep.grow(4));
        PatternTables x = new PatternTables();
        for (int op : Tables.NO_OPERATOR) {
            checks.due("grow(" + op + ")", NONE, x.grow(op));
        }
        checks.due("nothing appended", NONE, x.prune());
    }

    private static void prune() {
        checks.topic("promise 5");
        int[] ops = {0, 1, 2, 3, 4, 5, 6};
        PatternTables x = new PatternTables();
        make.pattern(x, 3, 5);
        make.subject(x, ops);
        for (int i = ops.length - 1; i >= 0; i--) {
            checks.due("prune()", ops[i], x.prune());
            checks.due("whole()", false, x.whole());
        }
        checks.due("prune() of none", NONE, x.prune());
        checks.due("pattern left alone", 5, x.shorten(3));
        checks.due("grow after it", 1, x.grow(6));
        checks.due("whole()", true, x.whole());
    }

    private static void complete() {
        checks.topic("promise 6");
        int[] tokens = {1, 0, 7, 4, 3, 2, 5};
        for (int p = 0; p < 4; p++) {
            PatternTables x = new PatternTables();
            for (int i = 0; i < tokens.length; i++) {
                checks.due("complete(" + p + ")", false, x.complete(p));
                x.extend(p, tokens[i]);
            }
            for (int other = 0; other < 4; other++) {
                checks.due("complete(" + other + ")", other == p, x.complete(other));
            }
        }
        PatternTables x = new PatternTables();
        for (int p = 0; p < 4; p++) {
            make.pattern(x, p, 7);
        }
        make.subject(x, 4);
        for (int p : Tables.NO_PATTERN) {
            checks.due("complete(" + p + ")", false, x.complete(p));
        }
    }

    private static void whole() {
        checks.topic("promise 7");
        int[] ops = {0, 3, 1, 4, 5, 2, 6};
        PatternTables x = new PatternTables();
        for (int i = 0; i < ops.length; i++) {
            checks.due("whole()", false, x.whole());
            x.grow(ops[i]);
        }
        checks.due("whole()", true, x.whole());
        PatternTables other = new PatternTables();
        make.pattern(other, 3, 7);
        checks.due("whole() beside a pattern", false, other.whole());
    }

    private static void fitsAt() {
        checks.topic("promise 8");
        PatternTables x = sample();
        int[] sets = {1, 10, 0, 4, 10, 0, 0};
        for (int n = 0; n < sets.length; n++) {
            checks.due("fitsAt(" + n + ")", sets[n], x.fitsAt(n));
        }
        checks.due("fitsAt(7)", 0, x.fitsAt(7));
        checks.due("shorten", 7, x.shorten(0));
        checks.due("fitsAt(0), pattern 0 not complete", 0, x.fitsAt(0));
        checks.due("fitsAt(1)", 10, x.fitsAt(1));
        checks.due("prune()", 5, x.prune());
        for (int n = 0; n < 7; n++) {
            checks.due("fitsAt(" + n + "), subject not complete", 0, x.fitsAt(n));
        }

        PatternTables all = new PatternTables();
        for (int p = 0; p < 4; p++) {
            make.pattern(all, p, 7);
        }
        make.subject(all, 0, 4, 5);
        for (int n = 0; n < 3; n++) {
            checks.due("fitsAt(" + n + "), all gaps", 15, all.fitsAt(n));
        }
        checks.due("fitsAt(3)", 0, all.fitsAt(3));
        for (int n : Tables.NO_NODE) {
            checks.due("fitsAt(" + n + ")", 0, all.fitsAt(n));
        }

        PatternTables skip = new PatternTables();
        make.pattern(skip, 0, 0, 7, 4);
        make.pattern(skip, 1, 0, 7, 7);
        make.pattern(skip, 2, 0, 1, 7, 7, 4);
        make.pattern(skip, 3, 0, 4, 7);
        make.subject(skip, 0, 1, 2, 5, 0, 4, 4, 4);
        checks.due("a gap skips a deep part", 7, skip.fitsAt(0));
        checks.due("the inner part", 11, skip.fitsAt(4));

        PatternTables lone = new PatternTables();
        make.pattern(lone, 0, 4);
        make.pattern(lone, 1, 5);
        make.pattern(lone, 2, 6);
        make.pattern(lone, 3, 3, 7);
        make.subject(lone, 5);
        checks.due("operators without parts differ", 2, lone.fitsAt(0));
    }

    private static void count() {
        checks.topic("promise 9");
        PatternTables x = sample();
        int[] due = {1, 2, 1, 2};
        for (int p = 0; p < 4; p++) {
            checks.due("count(" + p + ")", due[p], x.count(p));
        }
        for (int p : Tables.NO_PATTERN) {
            checks.due("count(" + p + ")", 0, x.count(p));
        }
        x.prune();
        for (int p = 0; p < 4; p++) {
            checks.due("count(" + p + "), subject not complete", 0, x.count(p));
        }
        PatternTables most = new PatternTables();
        make.pattern(most, 3, 7);
        make.subject(most, Tables.repeat(2, 24));
        checks.due("grow(6)", 25, most.grow(6));
        checks.due("count of a gap", 25, most.count(3));
        checks.due("count of an empty pattern", 0, most.count(0));
        make.pattern(most, 0, 2, 2, 2, 2, 2, 2, 2, 2, 7);
        checks.due("count of overlapping places", 17, most.count(0));
        checks.due("shorten", 7, most.shorten(0));
        checks.due("count, pattern not complete", 0, most.count(0));
    }

    private static void next() {
        checks.topic("promise 10");
        PatternTables x = sample();
        int[] due = {1, 1, 4, 4, 4, NONE, NONE, NONE};
        for (int n = 0; n < due.length; n++) {
            checks.due("next(3, " + n + ")", due[n], x.next(3, n));
        }
        checks.due("next(3, -1)", 1, x.next(3, -1));
        checks.due("next(3, least)", 1, x.next(3, LEAST));
        checks.due("next(3, most)", NONE, x.next(3, MOST));
        checks.due("next(0, 0)", 0, x.next(0, 0));
        checks.due("next(0, -9)", 0, x.next(0, -9));
        checks.due("next(0, 1)", NONE, x.next(0, 1));
        checks.due("next(2, 0)", 3, x.next(2, 0));
        for (int p : Tables.NO_PATTERN) {
            checks.due("next(" + p + ", 0)", NONE, x.next(p, 0));
        }
        x.prune();
        checks.due("next, subject not complete", NONE, x.next(3, 0));
        PatternTables last = new PatternTables();
        make.pattern(last, 1, 6);
        make.subject(last, Tables.repeat(2, 24));
        last.grow(6);
        checks.due("next(1, 0), the last node", 24, last.next(1, 0));
        checks.due("next(1, 24)", 24, last.next(1, 24));
        checks.due("next(1, 25)", NONE, last.next(1, 25));
    }

    private static void gapAt() {
        checks.topic("promise 11");
        PatternTables x = sample();
        checks.due("gapAt(0, 0, 0)", 1, x.gapAt(0, 0, 0));
        checks.due("gapAt(0, 0, 1)", 3, x.gapAt(0, 0, 1));
        checks.due("gapAt(0, 0, 2)", NONE, x.gapAt(0, 0, 2));
        checks.due("gapAt(0, 0, -1)", NONE, x.gapAt(0, 0, -1));
        checks.due("gapAt(0, 0, most)", NONE, x.gapAt(0, 0, MOST));
        checks.due("gapAt(0, 0, least)", NONE, x.gapAt(0, 0, LEAST));
        checks.due("gapAt(0, 3, 0)", NONE, x.gapAt(0, 3, 0));
        checks.due("gapAt(1, 1, 0)", 2, x.gapAt(1, 1, 0));
        checks.due("gapAt(1, 4, 0)", 5, x.gapAt(1, 4, 0));
        checks.due("gapAt(2, 3, 0)", 6, x.gapAt(2, 3, 0));
        checks.due("gapAt(2, 3, 1)", NONE, x.gapAt(2, 3, 1));
        checks.due("gapAt(3, 1, 0), no gap", NONE, x.gapAt(3, 1, 0));
        for (int p : Tables.NO_PATTERN) {
            checks.due("gapAt(" + p + ", 0, 0)", NONE, x.gapAt(p, 0, 0));
        }
        for (int n : Tables.NO_NODE) {
            checks.due("gapAt(0, " + n + ", 0)", NONE, x.gapAt(0, n, 0));
        }
        x.prune();
        checks.due("gapAt, subject not complete", NONE, x.gapAt(1, 1, 0));

        PatternTables wide = new PatternTables();
        make.pattern(wide, 3, 0, 0, 0, 0, 7, 7, 7, 7, 7);
        make.subject(wide, 2, 0, 0, 0, 0, 2, 4, 1, 5, 6, 4, 3, 3, 3, 5, 4);
        int[] places = {5, 7, 10, 11, 15};
        for (int k = 0; k < places.length; k++) {
            checks.due("gapAt(3, 1, " + k + ")", places[k], wide.gapAt(3, 1, k));
        }
        checks.due("gapAt(3, 1, 5)", NONE, wide.gapAt(3, 1, 5));
        checks.due("gapAt(3, 2, 0)", NONE, wide.gapAt(3, 2, 0));
        make.pattern(wide, 0, 7);
        for (int n = 0; n < 16; n++) {
            checks.due("gapAt(0, " + n + ", 0)", n, wide.gapAt(0, n, 0));
        }
        checks.due("gapAt(0, 16, 0)", NONE, wide.gapAt(0, 16, 0));
    }

    private static void size() {
        checks.topic("promise 12");
        PatternTables x = sample();
        int[] due = {7, 2, 1, 4, 2, 1, 1};
        for (int n = 0; n < due.length; n++) {
            checks.due("size(" + n + ")", due[n], x.size(n));
        }
        checks.due("size(7)", NONE, x.size(7));
        for (int n : Tables.NO_NODE) {
            checks.due("size(" + n + ")", NONE, x.size(n));
        }
        x.prune();
        for (int n = 0; n < due.length; n++) {
            checks.due("size(" + n + "), subject not complete", NONE, x.size(n));
        }
        PatternTables most = new PatternTables();
        make.subject(most, Tables.repeat(3, 24));
        most.grow(5);
        for (int n = 0; n < 25; n++) {
            checks.due("size(" + n + ")", 25 - n, most.size(n));
        }
    }

    private static void equal() {
        checks.topic("promise 13");
        PatternTables x = sample();
        int[] kind = {0, 1, 2, 3, 1, 2, 4};
        for (int m = 0; m < kind.length; m++) {
            for (int n = 0; n < kind.length; n++) {
                checks.due("equal(" + m + ", " + n + ")", kind[m] == kind[n], x.equal(m, n));
            }
        }
        checks.due("equal(7, 7)", false, x.equal(7, 7));
        for (int n : Tables.NO_NODE) {
            checks.due("equal(" + n + ", 0)", false, x.equal(n, 0));
            checks.due("equal(0, " + n + ")", false, x.equal(0, n));
            checks.due("equal(" + n + ", " + n + ")", false, x.equal(n, n));
        }
        x.prune();
        checks.due("equal(1, 1), subject not complete", false, x.equal(1, 1));
        checks.due("equal(1, 4), subject not complete", false, x.equal(1, 4));
        PatternTables near = new PatternTables();
        make.subject(near, 0, 0, 4, 5, 0, 4, 6);
        checks.due("parts that differ at their end", false, near.equal(1, 4));
        checks.due("the same operator", true, near.equal(2, 5));
        PatternTables head = new PatternTables();
        make.subject(head, 0, 0, 4, 5, 1, 4, 5);
        checks.due("parts that differ at their head", false, head.equal(1, 4));
        PatternTables shape = new PatternTables();
        make.subject(shape, 1, 2, 4, 2, 2, 4);
        checks.due("parts of different size", false, shape.equal(1, 3));
        checks.due("the inner part", true, shape.equal(1, 4));
    }

    private static void kinds() {
        checks.topic("promise 14");
        PatternTables x = sample();
        checks.due("kinds()", 4, x.kinds());
        x.prune();
        checks.due("kinds(), subject not complete", 0, x.kinds());
        PatternTables bare = new PatternTables();
        make.subject(bare, 0, 4, 5);
        checks.due("the empty set alone", 1, bare.kinds());
        make.pattern(bare, 0, 4);
        checks.due("the empty set and another", 2, bare.kinds());
        make.pattern(bare, 1, 7);
        checks.due("no empty set", 2, bare.kinds());
        make.pattern(bare, 2, 5);
        checks.due("three sets", 3, bare.kinds());

        PatternTables many = new PatternTables();
        make.pattern(many, 0, 0, 7, 7);
        make.pattern(many, 1, 0, 4, 7);
        make.pattern(many, 2, 0, 7, 4);
        make.pattern(many, 3, 7);
        make.subject(many, 0, 0, 4, 0, 5, 4, 0, 5, 0, 4, 4);
        checks.due("sets that all have the highest bit", 5, many.kinds());
        many.shorten(3);
        checks.due("the same without it", 5, many.kinds());
    }

    private static void covers() {
        checks.topic("promise 15");
        PatternTables x = new PatternTables();
        make.pattern(x, 0, 7);
        make.pattern(x, 1, 0, 7, 4);
        make.pattern(x, 2, 0, 2, 7, 4);
        make.pattern(x, 3, 0, 2, 7, 7);
        boolean[] due = {
            true, true, true, true,
            false, true, true, false,
            false, false, true, false,
            false, false, true, true,
        };
        for (int p = 0; p < 4; p++) {
            for (int q = 0; q < 4; q++) {
                checks.due("covers(" + p + ", " + q + ")", due[4 * p + q], x.covers(p, q));
            }
            for (int q : Tables.NO_PATTERN) {
                checks.due("covers(" + p + ", " + q + ")", false, x.covers(p, q));
                checks.due("covers(" + q + ", " + p + ")", false, x.covers(q, p));
            }
        }
        make.subject(x, 0, 2, 4, 4);
        checks.due("covers(0, 4) beside a whole subject", false, x.covers(0, 4));
        checks.due("covers(4, 4) beside a whole subject", false, x.covers(4, 4));
        x.shorten(2);
        checks.due("q not complete", false, x.covers(0, 2));
        checks.due("p not complete", false, x.covers(2, 1));
        checks.due("neither complete", false, x.covers(2, 2));
        x.shorten(0);
        checks.due("p empty", false, x.covers(0, 1));
        checks.due("q empty", false, x.covers(1, 0));
        checks.due("both empty", false, x.covers(0, 0));
        PatternTables y = new PatternTables();
        make.pattern(y, 0, 1, 7, 5);
        make.pattern(y, 1, 1, 0, 2, 7, 7, 5);
        make.pattern(y, 2, 1, 0, 2, 7, 7, 6);
        checks.due("a gap over a part with gaps", true, y.covers(0, 1));
        checks.due("the end differs", false, y.covers(0, 2));
        checks.due("the other way", false, y.covers(1, 0));
    }

    private static void bare() {
        checks.topic("promise 16");
        PatternTables x = sample();
        checks.due("bare()", 3, x.bare());
        x.shorten(2);
        checks.due("bare(), one pattern less", 4, x.bare());
        x.prune();
        checks.due("bare(), subject not complete", 0, x.bare());
        x.grow(6);
        checks.due("bare()", 4, x.bare());
        PatternTables none = new PatternTables();
        make.subject(none, Tables.repeat(2, 24));
        none.grow(4);
        checks.due("no pattern at all", 25, none.bare());
        make.pattern(none, 3, 7);
        checks.due("a gap fits everywhere", 0, none.bare());
    }

    private static void orderAndLimits() {
        checks.topic("promise 17");
        PatternTables x = new PatternTables();
        make.pattern(x, 0, 4);
        make.pattern(x, 1, Tables.repeat(0, 9));
        make.subject(x, 5);
        for (int p = 0; p < 2; p++) {
            checks.due("extend(" + p + ", 8) before FULL", NONE, x.extend(p, 8));
            checks.due("extend(" + p + ", -1) before FULL", NONE, x.extend(p, -1));
            checks.due("extend(" + p + ", 7)", FULL, x.extend(p, 7));
        }
        checks.due("grow(7) before FULL", NONE, x.grow(7));
        checks.due("grow(-1) before FULL", NONE, x.grow(-1));
        checks.due("grow(4)", FULL, x.grow(4));
        PatternTables deep = new PatternTables();
        make.subject(deep, Tables.repeat(2, 25));
        checks.due("grow(7) of 25 before FULL", NONE, deep.grow(7));
        checks.due("grow(6) of 25", FULL, deep.grow(6));
        checks.due("refused grow left it", 2, deep.prune());
        checks.due("24 are left", 25, deep.grow(4));

        checks.due("refused calls left pattern 0", 4, x.shorten(0));
        checks.due("and no more", NONE, x.shorten(0));
        for (int i = 0; i < 9; i++) {
            checks.due("refused calls left pattern 1", 0, x.shorten(1));
        }
        checks.due("and no more", NONE, x.shorten(1));
        checks.due("refused calls left the subject", 5, x.prune());
        checks.due("and no more", NONE, x.prune());
    }

    private static void independentObjects() {
        checks.topic("two objects");
        PatternTables x = new PatternTables();
        PatternTables y = new PatternTables();
        make.pattern(x, 0, 7);
        make.subject(x, 4);
        checks.due("complete(0) of the other", false, y.complete(0));
        checks.due("whole() of the other", false, y.whole());
    }
}
