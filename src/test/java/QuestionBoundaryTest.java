/** The boundary cases of the questions: what "Terms" says of fitting and the promises 8 to 16, a test for each sentence. */
public final class QuestionBoundaryTest {
    private static final int NONE = -1;
    private static final int LEAST = Tables.LEAST;
    private static final int MOST = Tables.MOST;
    private static final Checks checks = new Checks();
    private static final Tables make = new Tables(checks);

    // Lists that are not complete: empty, short of one part, full.
    private static final int[][] OPEN_PATTERNS = {
        Tables.EMPTY, {0}, {2}, {0, 7}, {0, 0, 7, 7}, {0, 0, 0, 0, 7, 7, 7, 7},
        Tables.NINE_LACKING_ONE, Tables.NINE_LACKING_TEN,
    };
    private static final int[][] OPEN_SUBJECTS = {
        Tables.EMPTY, {0}, {2}, {0, 4}, {0, 0, 4, 4}, Tables.repeat(2, 24),
        Tables.SUBJECT_25_LACKING_ONE, Tables.SUBJECT_25_LACKING_MANY,
        Tables.then(Tables.list(2), Tables.then(Tables.repeat(0, 12), Tables.repeat(4, 12))),
    };

    public static void main(String[] args) {
        terms();
        promises8To10();
        promises11To13();
        promises14To16();
        checks.end();
    }

    private static void terms() {
        checks.sentence("terms: the gap stands for a whole part", QuestionBoundaryTest::gapForSmallAndLargeParts);
        checks.sentence("terms: different gaps may get different trees", QuestionBoundaryTest::gapsAlikeOrNot);
        checks.sentence("terms: nodes are numbered 0, 1, ..", QuestionBoundaryTest::firstAndLastNode);
        checks.sentence("terms: the part that begins there, no more and no less", QuestionBoundaryTest::partEndsInTime);
        checks.sentence("terms: what is not complete fits nothing", QuestionBoundaryTest::openPatternFitsNothing);
        checks.sentence("terms: nothing fits what is not complete", QuestionBoundaryTest::nothingFitsOpenSubject);
        checks.sentence("terms: nothing fits a pattern that is not complete", QuestionBoundaryTest::nothingCoversOpen);
        checks.sentence("terms: a full pattern on a full subject", QuestionBoundaryTest::nineOn25);
    }

    private static void promises8To10() {
        checks.sentence("promise 8: bit p for pattern p", QuestionBoundaryTest::eachBitAlone);
        checks.sentence("promise 8: no pattern and every pattern", QuestionBoundaryTest::noBitAndAllBits);
        checks.sentence("promise 8: 0 when there is no such node", QuestionBoundaryTest::fitsAtNoNode);
        checks.sentence("promise 8: 0 at a node that was taken away", QuestionBoundaryTest::fitsAtNodeTakenAway);
        checks.sentence("promise 9: the number of nodes, none to 25", QuestionBoundaryTest::countFromNoneToAll);
        checks.sentence("promise 9: 0 when p is not 0 .. 3", QuestionBoundaryTest::countOfNoPattern);
        checks.sentence("promise 10: from n on, n itself too", QuestionBoundaryTest::nextFromTheNodeItself);
        checks.sentence("promise 10: from n on, n below the first node", QuestionBoundaryTest::nextFromBelow);
        checks.sentence("promise 10: NONE when there is none", QuestionBoundaryTest::nextWithoutFit);
        checks.sentence("promise 10: NONE when p is not 0 .. 3", QuestionBoundaryTest::nextOfNoPattern);
    }

    private static void promises11To13() {
        checks.sentence("promise 11: the k-th gap (0 the first)", QuestionBoundaryTest::firstAndLastGap);
        checks.sentence("promise 11: the pattern that is all gap", QuestionBoundaryTest::gapIsTheNodeItself);
        checks.sentence("promise 11: NONE when it does not fit there", QuestionBoundaryTest::gapWithoutFit);
        checks.sentence("promise 11: NONE when it has no such gap", QuestionBoundaryTest::noSuchGap);
        checks.sentence("promise 11: p that is not 0 .. 3", QuestionBoundaryTest::gapOfNoPattern);
        checks.sentence("promise 12: the number of operators, 1 to 25", QuestionBoundaryTest::sizeFromOneToAll);
        checks.sentence("promise 12: NONE when the subject is not complete", QuestionBoundaryTest::sizeInOpenSubject);
        checks.sentence("promise 12: NONE when there is no such node", QuestionBoundaryTest::sizeOfNoNode);
        checks.sentence("promise 13: whether they are the same tree", QuestionBoundaryTest::equalParts);
        checks.sentence("promise 13: false when the subject is not complete", QuestionBoundaryTest::equalInOpenSubject);
        checks.sentence("promise 13: false when there is no such node", QuestionBoundaryTest::equalOfNoNode);
    }

    private static void promises14To16() {
        checks.sentence("promise 14: the number of different sets", QuestionBoundaryTest::fewAndManyKinds);
        checks.sentence("promise 14: 0 when it is not complete", QuestionBoundaryTest::kindsInOpenSubject);
        checks.sentence("promise 15: whether p and q are complete", QuestionBoundaryTest::coversOnlyComplete);
        checks.sentence("promise 15: every tree that q fits, p fits too", QuestionBoundaryTest::coversFullPatterns);
        checks.sentence("promise 15: whatever the subject is", QuestionBoundaryTest::coversWithoutSubject);
        checks.sentence("promise 15: false when p or q is not 0 .. 3", QuestionBoundaryTest::coversNoPattern);
        checks.sentence("promise 16: how many, none to 25", QuestionBoundaryTest::bareFromNoneToAll);
        checks.sentence("promise 16: 0 when it is not complete", QuestionBoundaryTest::bareInOpenSubject);
    }

    private static void gapForSmallAndLargeParts() {
        PatternTables x = make.table(Tables.DEEP_25, Tables.list(2, 7));
        checks.due("a part of 24: fitsAt(0)", 1, x.fitsAt(0));
        checks.due("a part of one: fitsAt(23)", 1, x.fitsAt(23));
        checks.due("no part: fitsAt(24)", 0, x.fitsAt(24));
        PatternTables y = make.table(Tables.then(Tables.list(0), Tables.then(Tables.repeat(3, 22), 5, 6)),
            Tables.list(0, 7, 6), Tables.list(0, 7, 5), Tables.list(0, 5, 7));
        checks.due("a part of 23 before another: fitsAt(0)", 1, y.fitsAt(0));
    }

    private static void gapsAlikeOrNot() {
        int[] two = {1, 7, 7};
        checks.due("the same trees", 1, make.table(Tables.list(1, 4, 4), two).fitsAt(0));
        checks.due("different trees", 1, make.table(Tables.list(1, 4, 5), two).fitsAt(0));
        checks.due("trees of different size", 1, make.table(Tables.list(1, 0, 4, 5, 6), two).fitsAt(0));
    }

    private static void firstAndLastNode() {
        for (int[] subject : new int[][] {{4}, {2, 4}, Tables.DEEP_25, Tables.WIDE_25}) {
            PatternTables x = make.table(subject, Tables.GAP);
            int last = subject.length - 1;
            checks.due("fitsAt(-1)", 0, x.fitsAt(-1));
            checks.due("fitsAt(0)", 1, x.fitsAt(0));
            checks.due("fitsAt(" + last + ")", 1, x.fitsAt(last));
            checks.due("fitsAt(" + (last + 1) + ")", 0, x.fitsAt(last + 1));
            checks.due("size(0)", last + 1, x.size(0));
            checks.due("size(" + last + ")", 1, x.size(last));
        }
    }

    private static void partEndsInTime() {
        // The operators behind the part at node 1 would go on as the pattern does.
        PatternTables x = make.table(Tables.list(0, 2, 4, 2, 2, 4), Tables.list(2, 2, 4), Tables.list(2, 4));
        int[] sets = {0, 2, 0, 1, 2, 0};
        for (int n = 0; n < sets.length; n++) {
            checks.due("fitsAt(" + n + ")", sets[n], x.fitsAt(n));
        }
        // More tokens than there are operators from the node to the end.
        PatternTables y = make.table(Tables.repeat(2, 24), Tables.DEEP_NINE, Tables.then(Tables.repeat(2, 8), 5));
        checks.due("grow(5)", 25, y.grow(5));
        checks.due("fitsAt(16)", 3, y.fitsAt(16));
        for (int n = 17; n < 25; n++) {
            checks.due("fitsAt(" + n + ")", 0, y.fitsAt(n));
        }
    }

    private static void openPatternFitsNothing() {
        int[][] subjects = {{4}, {0, 4, 4}, {2, 4}, Tables.WIDE_25, Tables.DEEP_25};
        for (int[] open : OPEN_PATTERNS) {
            for (int[] subject : subjects) {
                PatternTables x = make.four(subject, open);
                for (int n = 0; n < subject.length; n++) {
                    checks.due("fitsAt(" + n + ")", 0, x.fitsAt(n));
                    checks.due("gapAt(0, " + n + ", 0)", NONE, x.gapAt(0, n, 0));
                }
                for (int p = 0; p < 4; p++) {
                    checks.due("count(" + p + ")", 0, x.count(p));
                    checks.due("next(" + p + ", 0)", NONE, x.next(p, 0));
                    checks.due("covers(" + p + ", " + p + ")", false, x.covers(p, p));
                }
                checks.due("kinds()", 1, x.kinds());
                checks.due("bare()", subject.length, x.bare());
            }
        }
    }

    private static void nothingFitsOpenSubject() {
        for (int[] subject : OPEN_SUBJECTS) {
            PatternTables x = make.table(subject, Tables.GAP, Tables.list(4), Tables.list(2, 7), Tables.list(0, 4, 4));
            for (int n = -1; n < 26; n++) {
                checks.due("fitsAt(" + n + ")", 0, x.fitsAt(n));
                checks.due("gapAt(0, " + n + ", 0)", NONE, x.gapAt(0, n, 0));
            }
            for (int p = 0; p < 4; p++) {
                checks.due("count(" + p + ")", 0, x.count(p));
                checks.due("next(" + p + ", 0)", NONE, x.next(p, 0));
            }
        }
    }

    private static void nothingCoversOpen() {
        for (int[] open : OPEN_PATTERNS) {
            PatternTables x = make.table(Tables.list(4), Tables.GAP, open, Tables.list(0, 7, 7), Tables.list(2, 7));
            for (int p = 0; p < 4; p++) {
                checks.due("covers(" + p + ", 1)", false, x.covers(p, 1));
                checks.due("covers(1, " + p + ")", false, x.covers(1, p));
            }
        }
    }

    private static void nineOn25() {
        PatternTables x = make.table(Tables.WIDE_25, Tables.WIDE_NINE, Tables.list(0, 4, 4));
        checks.due("count(0)", 9, x.count(0));
        for (int n = 0; n < 25; n++) {
            int set = (n <= 8 ? 1 : 0) + (n == 11 ? 2 : 0);
            checks.due("fitsAt(" + n + ")", set, x.fitsAt(n));
        }
        PatternTables y = make.table(Tables.DEEP_25, Tables.DEEP_NINE);
        checks.due("count(0)", 17, y.count(0));
        checks.due("next(0, 16)", 16, y.next(0, 16));
        checks.due("next(0, 17)", NONE, y.next(0, 17));
        checks.due("gapAt(0, 16, 0)", 24, y.gapAt(0, 16, 0));
    }

    private static void eachBitAlone() {
        for (int p = 0; p < 4; p++) {
            PatternTables x = make.table(Tables.list(4));
            for (int q = 0; q < 4; q++) {
                make.pattern(x, q, q == p ? 4 : 5);
            }
            checks.due("fitsAt(0), pattern " + p + " alone", 1 << p, x.fitsAt(0));
            checks.due("shorten(" + p + ")", 4, x.shorten(p));
            checks.due("fitsAt(0) without it", 0, x.fitsAt(0));
        }
    }

    private static void noBitAndAllBits() {
        PatternTables x = make.four(Tables.list(2, 4), Tables.list(4));
        checks.due("fitsAt(0)", 0, x.fitsAt(0));
        checks.due("fitsAt(1)", 15, x.fitsAt(1));
        checks.due("all empty: fitsAt(0)", 0, make.table(Tables.list(4)).fitsAt(0));
    }

    private static void fitsAtNoNode() {
        for (int[] subject : new int[][] {Tables.EMPTY, {4}, {0, 4, 4}, Tables.WIDE_25}) {
            PatternTables x = make.four(subject, Tables.GAP);
            for (int n : Tables.NO_NODE) {
                checks.due("fitsAt(" + n + ")", 0, x.fitsAt(n));
            }
            for (int n = subject.length; n < 40; n++) {
                checks.due("fitsAt(" + n + ") of " + subject.length, 0, x.fitsAt(n));
            }
        }
    }

    /** A subject of one operator that has been a longer one. */
    private static PatternTables onceLonger(int[]... patterns) {
        PatternTables x = make.table(Tables.list(0, 4, 4), patterns);
        for (int op : new int[] {4, 4, 0}) {
            checks.due("prune()", op, x.prune());
        }
        checks.due("grow(4)", 1, x.grow(4));
        return x;
    }

    private static void fitsAtNodeTakenAway() {
        PatternTables x = onceLonger(Tables.GAP, Tables.list(4), Tables.list(0, 4, 4));
        checks.due("fitsAt(0)", 3, x.fitsAt(0));
        checks.due("fitsAt(1)", 0, x.fitsAt(1));
        checks.due("fitsAt(2)", 0, x.fitsAt(2));
        checks.due("count(1)", 1, x.count(1));
        checks.due("next(1, 1)", NONE, x.next(1, 1));
        checks.due("gapAt(0, 1, 0)", NONE, x.gapAt(0, 1, 0));
    }

    private static void countFromNoneToAll() {
        for (int[] subject : new int[][] {Tables.EMPTY, {4}, {2, 4}, Tables.WIDE_25, Tables.DEEP_25}) {
            PatternTables x = make.table(subject, Tables.GAP, Tables.list(6), Tables.EMPTY, Tables.GAP);
            checks.due("count(0) of " + subject.length, subject.length, x.count(0));
            checks.due("count(1), nowhere", 0, x.count(1));
            checks.due("count(2), empty", 0, x.count(2));
            checks.due("count(3) of " + subject.length, subject.length, x.count(3));
        }
        PatternTables x = make.table(Tables.DEEP_25, Tables.list(4), Tables.list(2, 7));
        checks.due("count(0), the last node alone", 1, x.count(0));
        checks.due("count(1), all but the last", 24, x.count(1));
    }

    private static void countOfNoPattern() {
        PatternTables x = make.four(Tables.WIDE_25, Tables.GAP);
        for (int p : Tables.NO_PATTERN) {
            checks.due("count(" + p + ")", 0, x.count(p));
        }
    }

    private static void nextFromTheNodeItself() {
        PatternTables x = make.table(Tables.WIDE_25, Tables.GAP, Tables.list(4));
        for (int n = 0; n < 25; n++) {
            checks.due("next(0, " + n + ")", n, x.next(0, n));
            checks.due("next(1, " + n + ")", n < 12 ? 12 : n, x.next(1, n));
        }
    }

    private static void nextFromBelow() {
        PatternTables x = make.table(Tables.WIDE_25, Tables.GAP, Tables.list(4), Tables.list(6));
        for (int n : new int[] {-1, -2, -9, -25, -36, -65536, LEAST + 1, LEAST}) {
            checks.due("next(0, " + n + ")", 0, x.next(0, n));
            checks.due("next(1, " + n + ")", 12, x.next(1, n));
            checks.due("next(2, " + n + ")", NONE, x.next(2, n));
        }
    }

    private static void nextWithoutFit() {
        PatternTables x = make.table(Tables.WIDE_25, Tables.GAP, Tables.list(6), Tables.list(0, 4, 4));
        for (int n : new int[] {25, 26, 32, 61, 256, 65536, MOST - 1, MOST}) {
            checks.due("next(0, " + n + "), no such node", NONE, x.next(0, n));
        }
        checks.due("next(1, 0), fits nowhere", NONE, x.next(1, 0));
        checks.due("next(2, 11), the last fit", 11, x.next(2, 11));
        checks.due("next(2, 12), behind the last fit", NONE, x.next(2, 12));
        checks.due("next(3, 0), empty", NONE, x.next(3, 0));
        checks.due("next(0, 0), no subject", NONE, make.table(Tables.EMPTY, Tables.GAP).next(0, 0));
        PatternTables one = make.table(Tables.list(4), Tables.GAP);
        checks.due("next(0, 0) of one", 0, one.next(0, 0));
        checks.due("next(0, 1) of one", NONE, one.next(0, 1));
    }

    private static void nextOfNoPattern() {
        PatternTables x = make.four(Tables.WIDE_25, Tables.GAP);
        for (int p : Tables.NO_PATTERN) {
            for (int n : new int[] {0, -1, 24, 25, LEAST, MOST}) {
                checks.due("next(" + p + ", " + n + ")", NONE, x.next(p, n));
            }
        }
    }

    private static void firstAndLastGap() {
        // The most gaps that nine tokens hold, on the fullest subject.
        PatternTables x = make.table(Tables.WIDE_25, Tables.WIDE_NINE);
        int[] atTheTop = {4, 21, 22, 23, 24};
        int[] deepest = {12, 13, 14, 15, 16};
        for (int k = 0; k < 5; k++) {
            checks.due("gapAt(0, 0, " + k + ")", atTheTop[k], x.gapAt(0, 0, k));
            checks.due("gapAt(0, 8, " + k + ")", deepest[k], x.gapAt(0, 8, k));
        }
        // Node 0 can stand in a gap too, and so can the last of 25.
        PatternTables y = make.table(Tables.DEEP_25, Tables.GAP, Tables.list(2, 7));
        checks.due("gapAt(0, 0, 0)", 0, y.gapAt(0, 0, 0));
        checks.due("gapAt(1, 23, 0)", 24, y.gapAt(1, 23, 0));
    }

    private static void gapIsTheNodeItself() {
        PatternTables x = make.four(Tables.WIDE_25, Tables.GAP);
        for (int p = 0; p < 4; p++) {
            for (int n = 0; n < 25; n++) {
                checks.due("gapAt(" + p + ", " + n + ", 0)", n, x.gapAt(p, n, 0));
            }
        }
    }

    private static void gapWithoutFit() {
        PatternTables x = make.table(Tables.WIDE_25, Tables.list(0, 4, 7), Tables.GAP, Tables.list(0, 7));
        for (int n = 0; n < 25; n++) {
            checks.due("gapAt(0, " + n + ", 0)", n == 11 ? 13 : NONE, x.gapAt(0, n, 0));
            checks.due("gapAt(2, " + n + ", 0), not complete", NONE, x.gapAt(2, n, 0));
            checks.due("gapAt(3, " + n + ", 0), empty", NONE, x.gapAt(3, n, 0));
        }
        for (int n : Tables.NO_NODE) {
            checks.due("gapAt(1, " + n + ", 0), no such node", NONE, x.gapAt(1, n, 0));
        }
        PatternTables late = make.table(Tables.list(0, 4, 5), Tables.list(0, 7, 4));
        checks.due("gapAt(0, 0, 0), unfit behind its gap", NONE, late.gapAt(0, 0, 0));
        PatternTables none = make.table(Tables.EMPTY, Tables.GAP);
        checks.due("gapAt(0, 0, 0), no subject", NONE, none.gapAt(0, 0, 0));
    }

    private static void noSuchGap() {
        PatternTables x = make.table(Tables.list(0, 4, 4),
            Tables.list(0, 4, 4), Tables.list(0, 7, 4), Tables.list(0, 7, 7), Tables.GAP);
        int[] gaps = {0, 1, 2, 1};
        for (int p = 0; p < 4; p++) {
            checks.due("fitsAt(0)", 15, x.fitsAt(0));
            for (int k = gaps[p]; k < 12; k++) {
                checks.due("gapAt(" + p + ", 0, " + k + ")", NONE, x.gapAt(p, 0, k));
            }
            for (int k : new int[] {-1, -2, 25, 32, 256, 65536, LEAST, LEAST + 1, MOST - 1, MOST}) {
                checks.due("gapAt(" + p + ", 0, " + k + ")", NONE, x.gapAt(p, 0, k));
            }
        }
    }

    private static void gapOfNoPattern() {
        PatternTables x = make.four(Tables.WIDE_25, Tables.GAP);
        for (int p : Tables.NO_PATTERN) {
            checks.due("gapAt(" + p + ", 0, 0)", NONE, x.gapAt(p, 0, 0));
            checks.due("gapAt(" + p + ", " + p + ", " + p + ")", NONE, x.gapAt(p, p, p));
        }
    }

    private static void sizeFromOneToAll() {
        checks.due("size(0) of one", 1, make.table(Tables.list(4)).size(0));
        PatternTables deep = make.table(Tables.DEEP_25);
        PatternTables wide = make.table(Tables.WIDE_25);
        for (int n = 0; n < 25; n++) {
            checks.due("size(" + n + "), deep", 25 - n, deep.size(n));
            checks.due("size(" + n + "), wide", n < 12 ? 25 - 2 * n : 1, wide.size(n));
        }
    }

    private static void sizeInOpenSubject() {
        for (int[] subject : OPEN_SUBJECTS) {
            PatternTables x = make.table(subject);
            for (int n = -1; n < 26; n++) {
                checks.due("size(" + n + ") of " + subject.length, NONE, x.size(n));
            }
        }
        PatternTables x = make.table(Tables.WIDE_25);
        checks.due("size(0)", 25, x.size(0));
        checks.due("prune()", 4, x.prune());
        checks.due("size(0) after it", NONE, x.size(0));
        checks.due("size(12) after it", NONE, x.size(12));
    }

    private static void sizeOfNoNode() {
        for (int[] subject : new int[][] {{4}, {0, 4, 4}, Tables.WIDE_25}) {
            PatternTables x = make.table(subject);
            for (int n : Tables.NO_NODE) {
                checks.due("size(" + n + ")", NONE, x.size(n));
            }
            for (int n = subject.length; n < 40; n++) {
                checks.due("size(" + n + ") of " + subject.length, NONE, x.size(n));
            }
        }
        PatternTables x = onceLonger();
        checks.due("size(1), taken away", NONE, x.size(1));
        checks.due("size(2), taken away", NONE, x.size(2));
    }

    private static void equalParts() {
        PatternTables wide = make.table(Tables.WIDE_25);
        PatternTables deep = make.table(Tables.DEEP_25);
        for (int n = 0; n < 25; n++) {
            checks.due("equal(" + n + ", " + n + ")", true, wide.equal(n, n));
            checks.due("equal(" + n + ", 24), wide", n >= 12, wide.equal(n, 24));
            checks.due("equal(12, " + n + "), wide", n >= 12, wide.equal(12, n));
            checks.due("equal(" + n + ", 24), deep", n == 24, deep.equal(n, 24));
            checks.due("equal(0, " + n + "), deep", n == 0, deep.equal(0, n));
        }
        // The largest two parts that can be the same: 11 operators each, side by side in 23.
        int[] half = Tables.then(Tables.repeat(0, 5), 4, 5, 6, 4, 5, 6);
        PatternTables same = make.table(Tables.then(Tables.list(1), Tables.then(half, half)));
        checks.due("equal(1, 12)", true, same.equal(1, 12));
        checks.due("equal(12, 1)", true, same.equal(12, 1));
        checks.due("equal(0, 1)", false, same.equal(0, 1));
        checks.due("prune()", 6, same.prune());
        checks.due("grow(5)", 23, same.grow(5));
        checks.due("equal(1, 12), their ends differ", false, same.equal(1, 12));
        checks.due("equal(6, 17), inside", true, same.equal(6, 17));
        PatternTables heads = make.table(Tables.list(0, 0, 4, 5, 1, 4, 5));
        checks.due("equal(1, 4), their heads differ", false, heads.equal(1, 4));
        checks.due("equal(2, 3), operators without parts", false, heads.equal(2, 3));
    }

    private static void equalInOpenSubject() {
        for (int[] subject : OPEN_SUBJECTS) {
            PatternTables x = make.table(subject);
            for (int n = -1; n < 26; n++) {
                checks.due("equal(" + n + ", " + n + ") of " + subject.length, false, x.equal(n, n));
                checks.due("equal(0, " + n + ") of " + subject.length, false, x.equal(0, n));
            }
        }
        PatternTables x = make.table(Tables.WIDE_25);
        checks.due("equal(12, 13)", true, x.equal(12, 13));
        checks.due("prune()", 4, x.prune());
        checks.due("equal(12, 13) after it", false, x.equal(12, 13));
    }

    private static void equalOfNoNode() {
        for (int[] subject : new int[][] {{4}, {0, 4, 4}, Tables.WIDE_25}) {
            PatternTables x = make.table(subject);
            for (int n : Tables.NO_NODE) {
                checks.due("equal(" + n + ", 0)", false, x.equal(n, 0));
                checks.due("equal(0, " + n + ")", false, x.equal(0, n));
                checks.due("equal(" + n + ", " + n + ")", false, x.equal(n, n));
            }
            int behind = subject.length;
            checks.due("equal(" + behind + ", " + behind + ")", false, x.equal(behind, behind));
            checks.due("equal(" + (behind - 1) + ", " + behind + ")", false, x.equal(behind - 1, behind));
            checks.due("equal(" + behind + ", " + (behind - 1) + ")", false, x.equal(behind, behind - 1));
        }
        PatternTables x = onceLonger();
        checks.due("equal(0, 1), taken away", false, x.equal(0, 1));
        checks.due("equal(1, 2), taken away", false, x.equal(1, 2));
    }

    private static void fewAndManyKinds() {
        checks.due("one node, no pattern", 1, make.table(Tables.list(4)).kinds());
        checks.due("one node, all patterns", 1, make.four(Tables.list(4), Tables.GAP).kinds());
        checks.due("25 nodes, no pattern", 1, make.table(Tables.WIDE_25).kinds());
        checks.due("25 nodes, all patterns", 1, make.four(Tables.WIDE_25, Tables.GAP).kinds());
        checks.due("the empty set and the set of all", 2, make.four(Tables.WIDE_25, Tables.list(4)).kinds());
        // A pattern less at each node downward, the last two nodes with the same one.
        PatternTables x = make.table(Tables.list(2, 2, 2, 2, 3, 4),
            Tables.list(2, 7), Tables.list(2, 2, 7), Tables.list(2, 2, 2, 7), Tables.list(2, 2, 2, 2, 7));
        int[] sets = {15, 7, 3, 1, 0, 0};
        for (int n = 0; n < sets.length; n++) {
            checks.due("fitsAt(" + n + ")", sets[n], x.fitsAt(n));
        }
        checks.due("five sets at six nodes", 5, x.kinds());
    }

    private static void kindsInOpenSubject() {
        for (int[] subject : OPEN_SUBJECTS) {
            checks.due("kinds() of " + subject.length, 0, make.table(subject, Tables.GAP, Tables.list(4)).kinds());
            checks.due("kinds() of " + subject.length + ", no pattern", 0, make.table(subject).kinds());
        }
    }

    private static void coversOnlyComplete() {
        PatternTables x = make.table(Tables.EMPTY,
            Tables.GAP, Tables.NINE_LACKING_ONE, Tables.EMPTY, Tables.list(2, 0, 0, 0, 0, 7, 7, 7));
        for (int p = 0; p < 4; p++) {
            for (int q = 0; q < 4; q++) {
                checks.due("covers(" + p + ", " + q + ")", p == 0 && q == 0, x.covers(p, q));
            }
        }
        PatternTables y = make.table(Tables.EMPTY, Tables.GAP, Tables.list(0, 7));
        checks.due("covers(0, 1), one part missing", false, y.covers(0, 1));
        checks.due("extend(1, 7)", 3, y.extend(1, 7));
        checks.due("covers(0, 1), complete", true, y.covers(0, 1));
        checks.due("shorten(0)", 7, y.shorten(0));
        checks.due("covers(0, 1), emptied", false, y.covers(0, 1));
    }

    private static void coversFullPatterns() {
        PatternTables x = make.table(Tables.EMPTY, Tables.GAP, Tables.WIDE_NINE,
            Tables.list(0, 0, 0, 0, 4, 4, 4, 4, 4), Tables.list(0, 0, 0, 0, 4, 4, 4, 4, 7));
        boolean[] due = {
            true, true, true, true,
            false, true, true, true,
            false, false, true, false,
            false, false, true, true,
        };
        for (int p = 0; p < 4; p++) {
            for (int q = 0; q < 4; q++) {
                checks.due("covers(" + p + ", " + q + ")", due[4 * p + q], x.covers(p, q));
            }
        }
        // A gap takes the most that nine tokens leave it; the last tokens decide.
        PatternTables y = make.table(Tables.EMPTY, Tables.list(0, 7, 6),
            Tables.list(0, 0, 0, 0, 7, 7, 7, 7, 6), Tables.list(0, 0, 0, 0, 7, 7, 7, 7, 7), Tables.list(1, 7, 6));
        checks.due("covers(0, 1)", true, y.covers(0, 1));
        checks.due("covers(0, 2), a gap at the end of q alone", false, y.covers(0, 2));
        checks.due("covers(3, 1), another head", false, y.covers(3, 1));
        checks.due("covers(1, 0)", false, y.covers(1, 0));
    }

    private static void coversWithoutSubject() {
        for (int[] subject : new int[][] {Tables.EMPTY, {0, 4}, {6}, Tables.WIDE_25, Tables.SUBJECT_25_LACKING_ONE}) {
            PatternTables x = make.table(subject, Tables.list(0, 7, 7), Tables.list(0, 4, 7));
            checks.due("covers(0, 1)", true, x.covers(0, 1));
            checks.due("covers(1, 0)", false, x.covers(1, 0));
        }
    }

    private static void coversNoPattern() {
        PatternTables x = make.four(Tables.list(4), Tables.GAP);
        for (int no : Tables.NO_PATTERN) {
            for (int p = 0; p < 4; p++) {
                checks.due("covers(" + p + ", " + no + ")", false, x.covers(p, no));
                checks.due("covers(" + no + ", " + p + ")", false, x.covers(no, p));
            }
            checks.due("covers(" + no + ", " + no + ")", false, x.covers(no, no));
        }
    }

    private static void bareFromNoneToAll() {
        for (int[] subject : new int[][] {{4}, {2, 4}, Tables.WIDE_25, Tables.DEEP_25}) {
            checks.due("no pattern", subject.length, make.table(subject).bare());
            checks.due("patterns that are nowhere", subject.length, make.four(subject, Tables.list(6)).bare());
            for (int p = 0; p < 4; p++) {
                PatternTables x = make.table(subject);
                make.pattern(x, p, Tables.GAP);
                checks.due("pattern " + p + " fits everywhere", 0, x.bare());
            }
        }
        checks.due("all but the last", 24, make.table(Tables.DEEP_25, Tables.list(4)).bare());
        checks.due("the last alone", 1, make.table(Tables.DEEP_25, Tables.list(2, 7)).bare());
    }

    private static void bareInOpenSubject() {
        for (int[] subject : OPEN_SUBJECTS) {
            checks.due("bare() of " + subject.length, 0, make.table(subject).bare());
            checks.due("bare() of " + subject.length + ", one pattern", 0, make.table(subject, Tables.list(6)).bare());
        }
    }
}
