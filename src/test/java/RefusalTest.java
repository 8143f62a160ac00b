import java.util.ArrayList;
import java.util.List;
import java.util.function.Supplier;

/** Promise 17, the order of the codes and what a refused call leaves; and "What it is", the 512 calls. */
public final class RefusalTest {
    private static final int NONE = -1;
    private static final int FULL = -2;
    private static final int CALLS = 512;
    private static final Checks checks = new Checks();
    private static final Tables make = new Tables(checks);

    /** A call whose answer counts as a number: a boolean as 1 or 0. */
    private interface Call {
        int on(PatternTables x);
    }

    private record Named(String name, Call call) {
    }

    /** How an object came to be as it is, so that a second one can be made like it. */
    private record State(String name, Supplier<PatternTables> maker) {
    }

    private static final State NEW = new State("new", PatternTables::new);
    private static final State STARTED = new State("started", () -> make.table(
        Tables.list(0, 2, 4), Tables.list(0, 7), Tables.list(2), Tables.list(0, 4), Tables.list(1, 2, 7)));
    private static final State COMPLETE = new State("complete", () -> make.table(
        Tables.list(0, 2, 4, 4), Tables.list(0, 7, 7), Tables.list(2, 7), Tables.list(4), Tables.GAP));
    private static final State FULL_COMPLETE = new State("full, complete", () -> make.table(
        Tables.WIDE_25, Tables.WIDE_NINE, Tables.DEEP_NINE, Tables.list(0, 0, 0, 0, 4, 4, 4, 4, 4), Tables.WIDE_NINE));
    private static final State FULL_OPEN = new State("full, open", () -> make.table(
        Tables.SUBJECT_25_LACKING_ONE, Tables.NINE_LACKING_ONE, Tables.NINE_LACKING_TEN,
        Tables.repeat(2, 9), Tables.repeat(3, 9)));
    private static final State EMPTIED = new State("emptied", RefusalTest::emptied);
    private static final State[] STATES = {NEW, STARTED, COMPLETE, FULL_COMPLETE, FULL_OPEN, EMPTIED};

    // In several runs, each on an object of its own: together they are more than 512 calls.
    private static final List<List<Named>> LATER = List.of(
        showFits(), showGaps(), showParts(), showByTaking(), showByAdding());

    public static void main(String[] args) {
        checks.sentence("promise 17: extend: NONE is tested before FULL, complete", RefusalTest::noneBeforeFullComplete);
        checks.sentence("promise 17: extend: NONE is tested before FULL, nine", RefusalTest::noneBeforeFullNine);
        checks.sentence("promise 17: grow: NONE is tested before FULL, complete", RefusalTest::noneBeforeFullWhole);
        checks.sentence("promise 17: grow: NONE is tested before FULL, 25", RefusalTest::noneBeforeFull25);
        checks.sentence("promise 17: a call refused for its arguments changes nothing", RefusalTest::wrongArguments);
        checks.sentence("promise 17: a call refused by FULL changes nothing", RefusalTest::refusedByFull);
        checks.sentence("promise 17: a call refused for an empty list changes nothing", RefusalTest::refusedByEmpty);
        checks.sentence("promise 17: a question changes nothing, answered or refused", RefusalTest::questions);
        checks.sentence("what it is: at most 512 calls, the last a question", RefusalTest::lastOf512Asks);
        checks.sentence("what it is: at most 512 calls, the last a change", RefusalTest::lastOf512Changes);
        checks.sentence("what it is: at most 512 calls, nearly all refused", RefusalTest::many512Refused);
        checks.end();
    }

    private static void noneBeforeFullComplete() {
        for (int[] tokens : new int[][] {Tables.GAP, {4}, {0, 7, 7}, Tables.WIDE_NINE, Tables.DEEP_NINE}) {
            extendNoneBeforeFull(tokens);
        }
    }

    private static void noneBeforeFullNine() {
        extendNoneBeforeFull(Tables.NINE_LACKING_ONE);
        extendNoneBeforeFull(Tables.NINE_LACKING_TEN);
    }

    private static void extendNoneBeforeFull(int[] tokens) {
        PatternTables x = make.four(Tables.EMPTY, tokens);
        for (int p = 0; p < 4; p++) {
            for (int token : Tables.NO_TOKEN) {
                checks.due("extend(" + p + ", " + token + ")", NONE, x.extend(p, token));
            }
            checks.due("extend(" + p + ", 0)", FULL, x.extend(p, 0));
            checks.due("extend(" + p + ", 7)", FULL, x.extend(p, 7));
        }
        for (int p : Tables.NO_PATTERN) {
            checks.due("extend(" + p + ", 7)", NONE, x.extend(p, 7));
            checks.due("extend(" + p + ", 8)", NONE, x.extend(p, 8));
        }
    }

    private static void noneBeforeFullWhole() {
        for (int[] ops : new int[][] {{4}, {2, 4}, {0, 4, 4}, Tables.WIDE_25, Tables.DEEP_25}) {
            growNoneBeforeFull(ops);
        }
    }

    private static void noneBeforeFull25() {
        growNoneBeforeFull(Tables.SUBJECT_25_LACKING_ONE);
        growNoneBeforeFull(Tables.SUBJECT_25_LACKING_MANY);
    }

    private static void growNoneBeforeFull(int[] ops) {
        PatternTables x = make.table(ops);
        for (int op : Tables.NO_OPERATOR) {
            checks.due("grow(" + op + ")", NONE, x.grow(op));
        }
        checks.due("grow(0)", FULL, x.grow(0));
        checks.due("grow(6)", FULL, x.grow(6));
    }

    private static PatternTables emptied() {
        PatternTables x = FULL_COMPLETE.maker().get();
        for (Named named : showByTaking()) {
            named.call().on(x);
        }
        return x;
    }

    private static Call shortenOf(int p) {
        return x -> x.shorten(p);
    }

    private static List<Named> repeat(List<Named> calls, String name, int times, Call call) {
        for (int i = 0; i < times; i++) {
            calls.add(new Named(name, call));
        }
        return calls;
    }

    private static int number(boolean answer) {
        return answer ? 1 : 0;
    }

    private static void wrongArguments() {
        for (State state : STATES) {
            for (Named named : wrongCalls()) {
                refused(state, named, NONE);
            }
        }
    }

    /** Calls that would change something, had they not a wrong argument. */
    private static List<Named> wrongCalls() {
        List<Named> calls = new ArrayList<>();
        for (int p : Tables.NO_PATTERN) {
            calls.add(new Named("extend(" + p + ", 7)", x -> x.extend(p, 7)));
            calls.add(new Named("extend(" + p + ", 8)", x -> x.extend(p, 8)));
            calls.add(new Named("shorten(" + p + ")", shortenOf(p)));
        }
        for (int token : Tables.NO_TOKEN) {
            for (int p = 0; p < 4; p++) {
                int pattern = p;
                calls.add(new Named("extend(" + p + ", " + token + ")", x -> x.extend(pattern, token)));
            }
        }
        for (int op : Tables.NO_OPERATOR) {
            calls.add(new Named("grow(" + op + ")", x -> x.grow(op)));
        }
        return calls;
    }

    private static void refusedByFull() {
        for (State state : new State[] {COMPLETE, FULL_COMPLETE, FULL_OPEN}) {
            for (int token = 0; token < 8; token++) {
                for (int p = 0; p < 4; p++) {
                    int pattern = p;
                    int taken = token;
                    refused(state, new Named("extend(" + p + ", " + token + ")", x -> x.extend(pattern, taken)), FULL);
                }
            }
            for (int op = 0; op < 7; op++) {
                int taken = op;
                refused(state, new Named("grow(" + op + ")", x -> x.grow(taken)), FULL);
            }
        }
    }

    private static void refusedByEmpty() {
        for (State state : new State[] {NEW, EMPTIED}) {
            for (int p = 0; p < 4; p++) {
                refused(state, new Named("shorten(" + p + ")", shortenOf(p)), NONE);
            }
            refused(state, new Named("prune()", PatternTables::prune), NONE);
        }
    }

    private static void questions() {
        for (State state : STATES) {
            for (Named named : someQuestions()) {
                leavesAll(state, named.name(), List.of(named));
            }
            leavesAll(state, "all of them", someQuestions());
        }
    }

    /** Each question with good arguments and with wrong ones. */
    private static List<Named> someQuestions() {
        List<Named> calls = new ArrayList<>();
        for (int a : new int[] {0, 1, 3, 4, 24, 25, -1, Tables.LEAST, Tables.MOST}) {
            calls.add(new Named("complete(" + a + ")", x -> number(x.complete(a))));
            calls.add(new Named("fitsAt(" + a + ")", x -> x.fitsAt(a)));
            calls.add(new Named("count(" + a + ")", x -> x.count(a)));
            calls.add(new Named("next(0, " + a + ")", x -> x.next(0, a)));
            calls.add(new Named("next(" + a + ", 0)", x -> x.next(a, 0)));
            calls.add(new Named("gapAt(" + a + ", 0, 0)", x -> x.gapAt(a, 0, 0)));
            calls.add(new Named("gapAt(0, " + a + ", 0)", x -> x.gapAt(0, a, 0)));
            calls.add(new Named("gapAt(0, 0, " + a + ")", x -> x.gapAt(0, 0, a)));
            calls.add(new Named("size(" + a + ")", x -> x.size(a)));
            calls.add(new Named("equal(0, " + a + ")", x -> number(x.equal(0, a))));
            calls.add(new Named("equal(" + a + ", 1)", x -> number(x.equal(a, 1))));
            calls.add(new Named("covers(0, " + a + ")", x -> number(x.covers(0, a))));
            calls.add(new Named("covers(" + a + ", 3)", x -> number(x.covers(a, 3))));
        }
        calls.add(new Named("whole()", x -> number(x.whole())));
        calls.add(new Named("kinds()", PatternTables::kinds));
        calls.add(new Named("bare()", PatternTables::bare));
        return calls;
    }

    private static void refused(State state, Named named, int code) {
        PatternTables x = state.maker().get();
        checks.due(state.name() + ": " + named.name(), code, named.call().on(x));
        checks.due(state.name() + ": " + named.name() + " again", code, named.call().on(x));
        leavesAll(state, named.name(), List.of(named, named));
    }

    /** What later calls show is the same as on an object that never got these calls. */
    private static void leavesAll(State state, String name, List<Named> calls) {
        for (List<Named> later : LATER) {
            String plain = answers(state, List.of(), later);
            String after = answers(state, calls, later);
            checks.due(state.name() + ": after " + name + " the calls from " + later.get(0).name() + " on", plain, after);
        }
    }

    private static String answers(State state, List<Named> before, List<Named> later) {
        PatternTables x = state.maker().get();
        before.forEach(named -> named.call().on(x));
        StringBuilder text = new StringBuilder();
        later.forEach(named -> text.append(named.call().on(x)).append(' '));
        return text.toString();
    }

    private static List<Named> showFits() {
        List<Named> calls = new ArrayList<>();
        for (int a = 0; a < 4; a++) {
            int p = a;
            calls.add(new Named("complete(" + p + ")", x -> number(x.complete(p))));
            calls.add(new Named("count(" + p + ")", x -> x.count(p)));
            for (int b = 0; b < 4; b++) {
                int q = b;
                calls.add(new Named("covers(" + p + ", " + q + ")", x -> number(x.covers(p, q))));
            }
            for (int b = -1; b < 26; b++) {
                int n = b;
                calls.add(new Named("next(" + p + ", " + n + ")", x -> x.next(p, n)));
            }
        }
        return calls;
    }

    private static List<Named> showGaps() {
        List<Named> calls = new ArrayList<>();
        for (int a = 0; a < 4 * 25; a++) {
            int p = a / 25;
            int n = a % 25;
            calls.add(new Named("gapAt(" + p + ", " + n + ", 0)", x -> x.gapAt(p, n, 0)));
            calls.add(new Named("gapAt(" + p + ", " + n + ", 1)", x -> x.gapAt(p, n, 1)));
        }
        return calls;
    }

    private static List<Named> showParts() {
        List<Named> calls = new ArrayList<>();
        calls.add(new Named("whole()", x -> number(x.whole())));
        calls.add(new Named("kinds()", PatternTables::kinds));
        calls.add(new Named("bare()", PatternTables::bare));
        for (int a = -1; a < 26; a++) {
            int n = a;
            calls.add(new Named("fitsAt(" + n + ")", x -> x.fitsAt(n)));
            calls.add(new Named("size(" + n + ")", x -> x.size(n)));
            calls.add(new Named("equal(2, " + n + ")", x -> number(x.equal(2, n))));
            calls.add(new Named("equal(" + n + ", 24)", x -> number(x.equal(n, 24))));
        }
        return calls;
    }

    private static List<Named> showByTaking() {
        List<Named> calls = new ArrayList<>();
        repeat(calls, "prune()", 26, PatternTables::prune);
        for (int p = 0; p < 4; p++) {
            repeat(calls, "shorten(" + p + ")", 10, shortenOf(p));
        }
        return calls;
    }

    /** Each list is gone on with until it takes no more, then taken down. */
    private static List<Named> showByAdding() {
        List<Named> calls = new ArrayList<>();
        for (int a = 0; a < 4; a++) {
            int p = a;
            repeat(calls, "extend(" + p + ", 2)", 2, x -> x.extend(p, 2));
            repeat(calls, "extend(" + p + ", 7)", 9, x -> x.extend(p, 7));
        }
        repeat(calls, "grow(3)", 2, x -> x.grow(3));
        repeat(calls, "grow(5)", 25, x -> x.grow(5));
        calls.addAll(showByTaking());
        return calls;
    }

    /** Uses up calls of the object without leaving a trace, so that one call of the 512 is left. */
    private static void useUpAllButOne(PatternTables x, int made) {
        for (int call = made; call < CALLS - 1; call++) {
            checks.due("complete(3), call " + (call + 1), true, x.complete(3));
        }
    }

    private static void lastOf512Asks() {
        int[] due = {1, 1, 9, 2, 3, 3, 5, 1, 3, 1, 0};
        Call[] last = {
            x -> number(x.complete(0)), x -> number(x.whole()), x -> x.fitsAt(0), x -> x.count(1),
            x -> x.next(3, 3), x -> x.gapAt(0, 0, 1), x -> x.size(0), x -> number(x.equal(1, 3)),
            PatternTables::kinds, x -> number(x.covers(3, 0)), PatternTables::bare,
        };
        for (int i = 0; i < last.length; i++) {
            PatternTables x = make.table(Tables.list(0, 2, 4, 2, 4),
                Tables.list(0, 7, 7), Tables.list(2, 4), Tables.EMPTY, Tables.GAP);
            useUpAllButOne(x, 11);
            checks.due("call 512, question " + i, due[i], last[i].on(x));
        }
    }

    private static void lastOf512Changes() {
        PatternTables x = new PatternTables();
        for (int pair = 0; pair < CALLS / 2; pair++) {
            checks.due("grow(6), pair " + pair, 1, x.grow(6));
            checks.due("prune(), pair " + pair, 6, x.prune());
        }
        for (int p = 0; p < 4; p++) {
            PatternTables y = new PatternTables();
            for (int pair = 0; pair < CALLS / 2; pair++) {
                checks.due("extend(" + p + ", 7), pair " + pair, 1, y.extend(p, 7));
                checks.due("shorten(" + p + "), pair " + pair, 7, y.shorten(p));
            }
        }
        PatternTables full = make.table(Tables.repeat(2, 24));
        for (int pair = 0; pair < (CALLS - 24) / 2; pair++) {
            checks.due("grow(4), pair " + pair, 25, full.grow(4));
            checks.due("prune(), pair " + pair, 4, full.prune());
        }
        PatternTables nine = new PatternTables();
        make.pattern(nine, 3, Tables.repeat(3, 8));
        for (int pair = 0; pair < (CALLS - 8) / 2; pair++) {
            checks.due("extend(3, 7), pair " + pair, 9, nine.extend(3, 7));
            checks.due("shorten(3), pair " + pair, 7, nine.shorten(3));
        }
    }

    private static void many512Refused() {
        PatternTables full = make.four(Tables.WIDE_25, Tables.WIDE_NINE);
        for (int call = 61; call < CALLS - 1; call++) {
            int p = call % 4;
            checks.due("call " + (call + 1), FULL, call % 5 == 0 ? full.grow(4) : full.extend(p, 7));
        }
        checks.due("call 512", 9, full.count(3));
        PatternTables empty = new PatternTables();
        for (int call = 0; call < CALLS - 1; call++) {
            int p = call % 4;
            checks.due("call " + (call + 1), NONE, call % 5 == 0 ? empty.prune() : empty.shorten(p));
        }
        checks.due("call 512", 1, empty.extend(0, 7));
        PatternTables wrong = new PatternTables();
        for (int call = 0; call < CALLS - 1; call++) {
            checks.due("call " + (call + 1), NONE, call % 2 == 0 ? wrong.grow(7) : wrong.extend(call % 4, 8));
        }
        checks.due("call 512", 1, wrong.grow(0));
    }
}
