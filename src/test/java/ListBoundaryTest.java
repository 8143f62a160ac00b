import static java.util.Arrays.copyOf;

/** The boundary cases of the lists: "Terms" and the promises 1 to 7, a test for each sentence. */
public final class ListBoundaryTest {
    private static final int NONE = -1;
    private static final int FULL = -2;
    private static final Checks checks = new Checks();
    private static final Tables make = new Tables(checks);

    private static final int[][] COMPLETE_PATTERNS = {
        {7}, {4}, {5}, {6}, {2, 7}, {3, 4}, {0, 7, 7}, {1, 4, 7}, {0, 2, 7, 4}, {1, 2, 3, 7, 7},
        {2, 0, 2, 7, 3, 6}, {0, 1, 4, 5, 1, 6, 7}, {2, 2, 2, 2, 2, 2, 2, 7},
        Tables.WIDE_NINE, Tables.DEEP_NINE,
    };
    private static final int[][] OPEN_NINES = {
        Tables.NINE_LACKING_ONE, Tables.NINE_LACKING_TEN, Tables.repeat(2, 9), {0, 4, 0, 4, 0, 4, 0, 4, 3},
    };
    private static final int[][] COMPLETE_SUBJECTS = {
        {4}, {5}, {6}, {2, 4}, {3, 5}, {0, 4, 5}, {1, 6, 4}, {2, 0, 4, 3, 5},
        Tables.then(Tables.repeat(3, 23), 6), Tables.WIDE_25, Tables.DEEP_25,
    };
    private static final int[][] OPEN_25S = {
        Tables.SUBJECT_25_LACKING_ONE, Tables.SUBJECT_25_LACKING_MANY,
        Tables.then(Tables.list(2), Tables.then(Tables.repeat(0, 12), Tables.repeat(5, 12))),
    };

    public static void main(String[] args) {
        terms();
        promises1To3();
        promises4To7();
        checks.end();
    }

    private static void terms() {
        checks.sentence("terms: 0 and 1 have two parts, 2 and 3 one part, 4, 5 and 6 none",
            ListBoundaryTest::partsOfEach);
        checks.sentence("terms: the gap stands for all of the pattern", ListBoundaryTest::gapIsAllOfThePattern);
        checks.sentence("terms: there are patterns 0 .. 3", ListBoundaryTest::fourPatternsApart);
        checks.sentence("terms: at most nine tokens", ListBoundaryTest::nineTokensFit);
        checks.sentence("terms: at most 25 operators", ListBoundaryTest::subjectOf25Fits);
        checks.sentence("terms: each list full, all at once", ListBoundaryTest::allListsFull);
        checks.sentence("terms: complete when it is one whole pattern", ListBoundaryTest::patternCompleteAtItsEnd);
        checks.sentence("terms: complete when it is one whole tree", ListBoundaryTest::subjectCompleteAtItsEnd);
    }

    private static void promises1To3() {
        checks.sentence("promise 1: all patterns are empty", ListBoundaryTest::newPatternsEmpty);
        checks.sentence("promise 1: the subject is empty", ListBoundaryTest::newSubjectEmpty);
        checks.sentence("promise 2: answers the number of its tokens", ListBoundaryTest::extendAnswersTheNumber);
        checks.sentence("promise 2: NONE when p is not 0 .. 3", ListBoundaryTest::extendOfNoPattern);
        checks.sentence("promise 2: NONE when token is not 0 .. 7", ListBoundaryTest::extendByNoToken);
        checks.sentence("promise 2: 0 and 7 are tokens", ListBoundaryTest::extendByLeastAndGreatestToken);
        checks.sentence("promise 2: FULL when it is complete", ListBoundaryTest::extendOfComplete);
        checks.sentence("promise 2: FULL when it has nine", ListBoundaryTest::extendOfNine);
        checks.sentence("promise 3: takes the last token away and answers it", ListBoundaryTest::shortenDownToNone);
        checks.sentence("promise 3: what was complete or full is so no more", ListBoundaryTest::shortenMakesRoom);
        checks.sentence("promise 3: NONE when p is not 0 .. 3", ListBoundaryTest::shortenOfNoPattern);
        checks.sentence("promise 3: NONE when it has none", ListBoundaryTest::shortenOfEmpty);
    }

    private static void promises4To7() {
        checks.sentence("promise 4: answers the number of its operators", ListBoundaryTest::growAnswersTheNumber);
        checks.sentence("promise 4: NONE when op is not 0 .. 6", ListBoundaryTest::growByNoOperator);
        checks.sentence("promise 4: 0 and 6 are operators", ListBoundaryTest::growByLeastAndGreatestOperator);
        checks.sentence("promise 4: FULL when it is complete", ListBoundaryTest::growOfComplete);
        checks.sentence("promise 4: FULL when it has 25", ListBoundaryTest::growOf25);
        checks.sentence("promise 5: takes the last operator away and answers it", ListBoundaryTest::pruneDownToNone);
        checks.sentence("promise 5: what was complete or full is so no more", ListBoundaryTest::pruneMakesRoom);
        checks.sentence("promise 5: NONE when it has none", ListBoundaryTest::pruneOfEmpty);
        checks.sentence("promise 6: whether pattern p is complete, empty", ListBoundaryTest::emptyNotComplete);
        checks.sentence("promise 6: whether pattern p is complete, full", ListBoundaryTest::nineCompleteOrNot);
        checks.sentence("promise 6: false when p is not 0 .. 3", ListBoundaryTest::completeOfNoPattern);
        checks.sentence("promise 7: whether the subject is complete, empty", ListBoundaryTest::emptyNotWhole);
        checks.sentence("promise 7: whether the subject is complete, full", ListBoundaryTest::subject25WholeOrNot);
    }

    private static void partsOfEach() {
        int[] parts = {2, 2, 1, 1, 0, 0, 0, 0};
        for (int token = 0; token < 8; token++) {
            PatternTables x = new PatternTables();
            checks.due("extend(1, " + token + ")", 1, x.extend(1, token));
            for (int part = 0; part < parts[token]; part++) {
                checks.due("complete(1), " + token + " with parts: " + part, false, x.complete(1));
                checks.due("extend by a part", part + 2, x.extend(1, 7));
            }
            checks.due("complete(1), " + token + " with all parts", true, x.complete(1));
            checks.due("extend by one part more", FULL, x.extend(1, 7));
        }
        for (int op = 0; op < 7; op++) {
            PatternTables x = new PatternTables();
            checks.due("grow(" + op + ")", 1, x.grow(op));
            for (int part = 0; part < parts[op]; part++) {
                checks.due("whole(), " + op + " with parts: " + part, false, x.whole());
                checks.due("grow by a part", part + 2, x.grow(4));
            }
            checks.due("whole(), " + op + " with all parts", true, x.whole());
            checks.due("grow by one part more", FULL, x.grow(4));
        }
    }

    private static void gapIsAllOfThePattern() {
        for (int p = 0; p < 4; p++) {
            PatternTables x = new PatternTables();
            checks.due("extend(" + p + ", 7)", 1, x.extend(p, 7));
            checks.due("complete(" + p + ")", true, x.complete(p));
            checks.due("extend(" + p + ", 7) once more", FULL, x.extend(p, 7));
        }
    }

    private static void fourPatternsApart() {
        PatternTables x = make.table(Tables.EMPTY, Tables.list(4), Tables.list(5), Tables.list(6), Tables.GAP);
        for (int p = 0; p < 4; p++) {
            checks.due("shorten(" + p + ")", p + 4, x.shorten(p));
            for (int other = 0; other < 4; other++) {
                checks.due("complete(" + other + ")", other > p, x.complete(other));
            }
        }
    }

    private static void nineTokensFit() {
        for (int p = 0; p < 4; p++) {
            PatternTables x = new PatternTables();
            make.pattern(x, p, Tables.NINE_LACKING_ONE);
            checks.due("the tenth token", FULL, x.extend(p, 7));
            takeBack(x, p, Tables.NINE_LACKING_ONE);
        }
    }

    private static void takeBack(PatternTables x, int p, int[] tokens) {
        for (int i = tokens.length - 1; i >= 0; i--) {
            checks.due("shorten(" + p + ")", tokens[i], x.shorten(p));
        }
        checks.due("shorten(" + p + ") of none", NONE, x.shorten(p));
    }

    private static void subjectOf25Fits() {
        PatternTables x = make.table(Tables.SUBJECT_25_LACKING_ONE);
        checks.due("the 26th operator", FULL, x.grow(4));
        pruneBack(x, Tables.SUBJECT_25_LACKING_ONE);
    }

    private static void pruneBack(PatternTables x, int[] ops) {
        for (int i = ops.length - 1; i >= 0; i--) {
            checks.due("prune()", ops[i], x.prune());
        }
        checks.due("prune() of none", NONE, x.prune());
    }

    private static void allListsFull() {
        int[][] patterns = {
            {2, 3, 2, 3, 2, 3, 2, 3, 4}, {3, 3, 3, 2, 2, 2, 3, 3, 5},
            {0, 1, 0, 1, 4, 5, 6, 7, 4}, {1, 7, 1, 6, 1, 5, 1, 4, 3},
        };
        int[] subject = {0, 1, 2, 3, 4, 5, 0, 6, 1, 2, 3, 4, 0, 5, 1, 6, 2, 3, 0, 4, 0, 5, 1, 6, 2};
        PatternTables x = make.table(subject, patterns);
        for (int p = 0; p < 4; p++) {
            checks.due("extend(" + p + ", 7)", FULL, x.extend(p, 7));
            checks.due("complete(" + p + ")", p < 3, x.complete(p));
        }
        checks.due("grow(4)", FULL, x.grow(4));
        checks.due("whole()", false, x.whole());
        for (int p = 0; p < 4; p++) {
            takeBack(x, p, patterns[p]);
        }
        pruneBack(x, subject);
    }

    private static void patternCompleteAtItsEnd() {
        for (int[] tokens : COMPLETE_PATTERNS) {
            PatternTables x = new PatternTables();
            for (int i = 0; i < tokens.length; i++) {
                checks.due("complete(2) of " + i + " tokens", false, x.complete(2));
                checks.due("extend(2, " + tokens[i] + ")", i + 1, x.extend(2, tokens[i]));
            }
            checks.due("complete(2) of " + tokens.length + " tokens", true, x.complete(2));
        }
    }

    private static void subjectCompleteAtItsEnd() {
        for (int[] ops : COMPLETE_SUBJECTS) {
            PatternTables x = new PatternTables();
            for (int i = 0; i < ops.length; i++) {
                checks.due("whole() of " + i + " operators", false, x.whole());
                checks.due("grow(" + ops[i] + ")", i + 1, x.grow(ops[i]));
            }
            checks.due("whole() of " + ops.length + " operators", true, x.whole());
        }
    }

    private static void newPatternsEmpty() {
        for (int p = 0; p < 4; p++) {
            checks.due("complete(" + p + ")", false, new PatternTables().complete(p));
            checks.due("shorten(" + p + ")", NONE, new PatternTables().shorten(p));
            for (int token = 0; token < 8; token++) {
                checks.due("extend(" + p + ", " + token + ")", 1, new PatternTables().extend(p, token));
            }
            for (int q = 0; q < 4; q++) {
                checks.due("covers(" + p + ", " + q + ")", false, new PatternTables().covers(p, q));
            }
        }
    }

    private static void newSubjectEmpty() {
        checks.due("whole()", false, new PatternTables().whole());
        checks.due("prune()", NONE, new PatternTables().prune());
        for (int op = 0; op < 7; op++) {
            checks.due("grow(" + op + ")", 1, new PatternTables().grow(op));
        }
        checks.due("fitsAt(0)", 0, new PatternTables().fitsAt(0));
        checks.due("count(0)", 0, new PatternTables().count(0));
        checks.due("next(0, 0)", NONE, new PatternTables().next(0, 0));
        checks.due("gapAt(0, 0, 0)", NONE, new PatternTables().gapAt(0, 0, 0));
        checks.due("size(0)", NONE, new PatternTables().size(0));
        checks.due("equal(0, 0)", false, new PatternTables().equal(0, 0));
        checks.due("kinds()", 0, new PatternTables().kinds());
        checks.due("bare()", 0, new PatternTables().bare());
    }

    private static void extendAnswersTheNumber() {
        PatternTables x = new PatternTables();
        for (int number = 1; number <= 9; number++) {
            for (int p = 0; p < 4; p++) {
                checks.due("extend(" + p + ", 2)", number, x.extend(p, 2));
            }
        }
        checks.due("shorten(3)", 2, x.shorten(3));
        checks.due("shorten(3)", 2, x.shorten(3));
        checks.due("extend(3, 3)", 8, x.extend(3, 3));
        checks.due("extend(3, 4)", 9, x.extend(3, 4));
    }

    private static void extendOfNoPattern() {
        for (int p : Tables.NO_PATTERN) {
            PatternTables x = new PatternTables();
            for (int token = 0; token < 8; token++) {
                checks.due("extend(" + p + ", " + token + ")", NONE, x.extend(p, token));
            }
            checks.due("extend(" + p + ", " + p + ")", NONE, x.extend(p, p));
            for (int q = 0; q < 4; q++) {
                checks.due("shorten(" + q + ") after it", NONE, x.shorten(q));
            }
            checks.due("prune() after it", NONE, x.prune());
        }
    }

    private static void extendByNoToken() {
        for (int token : Tables.NO_TOKEN) {
            PatternTables x = new PatternTables();
            for (int p = 0; p < 4; p++) {
                checks.due("extend(" + p + ", " + token + ")", NONE, x.extend(p, token));
                checks.due("shorten(" + p + ") after it", NONE, x.shorten(p));
                checks.due("extend(" + p + ", 2)", 1, x.extend(p, 2));
                checks.due("extend(" + p + ", " + token + ") of one", NONE, x.extend(p, token));
                checks.due("shorten(" + p + ") after it", 2, x.shorten(p));
            }
        }
    }

    private static void extendByLeastAndGreatestToken() {
        for (int p = 0; p < 4; p++) {
            PatternTables x = new PatternTables();
            checks.due("extend(" + p + ", 0)", 1, x.extend(p, 0));
            checks.due("extend(" + p + ", 7)", 2, x.extend(p, 7));
            checks.due("shorten(" + p + ")", 7, x.shorten(p));
            checks.due("shorten(" + p + ")", 0, x.shorten(p));
        }
    }

    private static void extendOfComplete() {
        for (int[] tokens : COMPLETE_PATTERNS) {
            takesNoMore(tokens, true);
        }
    }

    private static void extendOfNine() {
        for (int[] tokens : OPEN_NINES) {
            takesNoMore(tokens, false);
        }
    }

    private static void takesNoMore(int[] tokens, boolean complete) {
        PatternTables x = make.four(Tables.EMPTY, tokens);
        for (int p = 0; p < 4; p++) {
            for (int token = 0; token < 8; token++) {
                checks.due("extend(" + p + ", " + token + ")", FULL, x.extend(p, token));
            }
            checks.due("complete(" + p + ") after it", complete, x.complete(p));
            takeBack(x, p, tokens);
        }
    }

    private static void shortenDownToNone() {
        int[] tokens = {0, 1, 2, 3, 4, 5, 0, 6, 7};
        for (int length = 1; length <= 9; length++) {
            PatternTables x = make.four(Tables.EMPTY, copyOf(tokens, length));
            for (int p = 3; p >= 0; p--) {
                takeBack(x, p, copyOf(tokens, length));
            }
        }
    }

    private static void shortenMakesRoom() {
        for (int[] tokens : COMPLETE_PATTERNS) {
            PatternTables x = make.four(Tables.EMPTY, tokens);
            int length = tokens.length;
            for (int p = 0; p < 4; p++) {
                checks.due("shorten(" + p + ")", tokens[length - 1], x.shorten(p));
                checks.due("complete(" + p + ")", false, x.complete(p));
                checks.due("extend(" + p + ", 6)", length, x.extend(p, 6));
                checks.due("complete(" + p + ")", true, x.complete(p));
            }
        }
        PatternTables x = make.table(Tables.EMPTY, Tables.repeat(2, 9));
        checks.due("shorten(0) of nine", 2, x.shorten(0));
        checks.due("extend(0, 7)", 9, x.extend(0, 7));
        checks.due("complete(0)", true, x.complete(0));
    }

    private static void shortenOfNoPattern() {
        PatternTables x = make.four(Tables.WIDE_25, Tables.WIDE_NINE);
        for (int p : Tables.NO_PATTERN) {
            checks.due("shorten(" + p + ")", NONE, x.shorten(p));
        }
        for (int p = 0; p < 4; p++) {
            takeBack(x, p, Tables.WIDE_NINE);
        }
        pruneBack(x, Tables.WIDE_25);
    }

    private static void shortenOfEmpty() {
        for (int p = 0; p < 4; p++) {
            PatternTables x = make.table(Tables.WIDE_25);
            for (int q = 0; q < 4; q++) {
                make.pattern(x, q, q == p ? Tables.EMPTY : Tables.WIDE_NINE);
            }
            checks.due("shorten(" + p + ")", NONE, x.shorten(p));
            checks.due("shorten(" + p + ") again", NONE, x.shorten(p));
            checks.due("extend(" + p + ", 2)", 1, x.extend(p, 2));
            checks.due("shorten(" + p + ") of one", 2, x.shorten(p));
            checks.due("shorten(" + p + ") emptied", NONE, x.shorten(p));
            checks.due("extend(" + p + ", 7)", 1, x.extend(p, 7));
        }
    }

    private static void growAnswersTheNumber() {
        PatternTables x = make.four(Tables.EMPTY, Tables.WIDE_NINE);
        for (int number = 1; number <= 25; number++) {
            checks.due("grow(2)", number, x.grow(2));
        }
        checks.due("prune()", 2, x.prune());
        checks.due("prune()", 2, x.prune());
        checks.due("grow(3)", 24, x.grow(3));
        checks.due("grow(6)", 25, x.grow(6));
    }

    private static void growByNoOperator() {
        for (int op : Tables.NO_OPERATOR) {
            PatternTables x = new PatternTables();
            checks.due("grow(" + op + ")", NONE, x.grow(op));
            checks.due("whole() after it", false, x.whole());
            checks.due("prune() after it", NONE, x.prune());
            checks.due("grow(2)", 1, x.grow(2));
            checks.due("grow(" + op + ") of one", NONE, x.grow(op));
            checks.due("prune() after it", 2, x.prune());
        }
    }

    private static void growByLeastAndGreatestOperator() {
        PatternTables x = new PatternTables();
        checks.due("grow(0)", 1, x.grow(0));
        checks.due("grow(6)", 2, x.grow(6));
        checks.due("prune()", 6, x.prune());
        checks.due("prune()", 0, x.prune());
    }

    private static void growOfComplete() {
        for (int[] ops : COMPLETE_SUBJECTS) {
            growsNoMore(ops, true);
        }
    }

    private static void growOf25() {
        for (int[] ops : OPEN_25S) {
            growsNoMore(ops, false);
        }
    }

    private static void growsNoMore(int[] ops, boolean whole) {
        PatternTables x = make.table(ops);
        for (int op = 0; op < 7; op++) {
            checks.due("grow(" + op + ")", FULL, x.grow(op));
        }
        checks.due("whole() after it", whole, x.whole());
        pruneBack(x, ops);
    }

    private static void pruneDownToNone() {
        int[] ops = {0, 1, 2, 3, 4, 5, 0, 6, 1, 2, 3, 4, 0, 5, 1, 6, 2, 3, 0, 4, 0, 5, 1, 6, 2};
        for (int length = 1; length <= 25; length++) {
            pruneBack(make.table(copyOf(ops, length)), copyOf(ops, length));
        }
    }

    private static void pruneMakesRoom() {
        for (int[] ops : COMPLETE_SUBJECTS) {
            PatternTables x = make.table(ops);
            checks.due("prune()", ops[ops.length - 1], x.prune());
            checks.due("whole()", false, x.whole());
            checks.due("grow(6)", ops.length, x.grow(6));
            checks.due("whole()", true, x.whole());
        }
        PatternTables x = make.table(Tables.SUBJECT_25_LACKING_ONE);
        checks.due("prune() of 25", 3, x.prune());
        checks.due("grow(4)", 25, x.grow(4));
        checks.due("whole()", true, x.whole());
    }

    private static void pruneOfEmpty() {
        PatternTables x = make.four(Tables.EMPTY, Tables.WIDE_NINE);
        checks.due("prune()", NONE, x.prune());
        checks.due("prune() again", NONE, x.prune());
        checks.due("grow(5)", 1, x.grow(5));
        checks.due("prune() of one", 5, x.prune());
        checks.due("prune() emptied", NONE, x.prune());
        checks.due("grow(4)", 1, x.grow(4));
        for (int p = 0; p < 4; p++) {
            takeBack(x, p, Tables.WIDE_NINE);
        }
    }

    private static void emptyNotComplete() {
        for (int p = 0; p < 4; p++) {
            PatternTables x = make.table(Tables.list(4));
            for (int q = 0; q < 4; q++) {
                make.pattern(x, q, q == p ? Tables.EMPTY : Tables.GAP);
            }
            checks.due("complete(" + p + ")", false, x.complete(p));
            checks.due("extend(" + p + ", 7)", 1, x.extend(p, 7));
            checks.due("complete(" + p + ") of one", true, x.complete(p));
            checks.due("shorten(" + p + ")", 7, x.shorten(p));
            checks.due("complete(" + p + ") emptied", false, x.complete(p));
        }
    }

    private static void nineCompleteOrNot() {
        for (int p = 0; p < 4; p++) {
            for (int[] tokens : OPEN_NINES) {
                PatternTables x = new PatternTables();
                make.pattern(x, p, tokens);
                checks.due("complete(" + p + ") of nine, open", false, x.complete(p));
            }
            for (int[] tokens : new int[][] {Tables.WIDE_NINE, Tables.DEEP_NINE}) {
                PatternTables x = new PatternTables();
                make.pattern(x, p, copyOf(tokens, 8));
                checks.due("complete(" + p + ") of eight, open", false, x.complete(p));
                checks.due("extend(" + p + ", 4)", 9, x.extend(p, 4));
                checks.due("complete(" + p + ") of nine", true, x.complete(p));
            }
        }
    }

    private static void completeOfNoPattern() {
        PatternTables x = make.four(Tables.list(4), Tables.GAP);
        for (int p : Tables.NO_PATTERN) {
            checks.due("complete(" + p + ")", false, x.complete(p));
        }
    }

    private static void emptyNotWhole() {
        PatternTables x = make.four(Tables.EMPTY, Tables.GAP);
        checks.due("whole()", false, x.whole());
        checks.due("grow(6)", 1, x.grow(6));
        checks.due("whole() of one", true, x.whole());
        checks.due("prune()", 6, x.prune());
        checks.due("whole() emptied", false, x.whole());
    }

    private static void subject25WholeOrNot() {
        for (int[] ops : OPEN_25S) {
            checks.due("whole() of 25, open", false, make.table(ops).whole());
        }
        for (int[] ops : new int[][] {Tables.WIDE_25, Tables.DEEP_25}) {
            PatternTables x = make.table(copyOf(ops, 24));
            checks.due("whole() of 24, open", false, x.whole());
            checks.due("grow(5)", 25, x.grow(5));
            checks.due("whole() of 25", true, x.whole());
        }
    }
}
