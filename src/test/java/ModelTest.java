import java.util.ArrayList;
import java.util.HashSet;
import java.util.List;
import java.util.Set;

/** Long runs of calls, the same each time, against the document read in another way. */
public final class ModelTest {
    private static final int NONE = -1;
    private static final int FULL = -2;
    private static final int GAP = 7;
    private static final int RUNS = 1500;
    private static final int CALLS = 512;
    private static final int PRUNE = 42;
    private static final int ASK = 45;
    private static final Checks checks = new Checks();

    /** A tree or pattern with real parts, and the place of its head in the list. */
    private static final class Tree {
        final int head;
        final int place;
        final List<Tree> parts = new ArrayList<>();

        Tree(int head, int place) {
            this.head = head;
            this.place = place;
        }

        String text() {
            StringBuilder text = new StringBuilder().append(head);
            for (Tree part : parts) {
                text.append('(').append(part.text()).append(')');
            }
            return text.toString();
        }
    }

    private static int arity(int token) {
        return new int[] {2, 2, 1, 1, 0, 0, 0, 0}[token];
    }

    /** The tree that begins at the place, or null when the list ends too soon; all its nodes go to the index. */
    private static Tree read(List<Integer> list, int place, List<Tree> index) {
        if (place >= list.size()) {
            return null;
        }
        Tree tree = new Tree(list.get(place), place);
        index.add(tree);
        for (int i = 0; i < arity(tree.head); i++) {
            Tree part = read(list, index.size(), index);
            if (part == null) {
                return null;
            }
            tree.parts.add(part);
        }
        return tree;
    }

    private static Tree whole(List<Integer> list) {
        List<Tree> index = new ArrayList<>();
        Tree tree = read(list, 0, index);
        return tree != null && index.size() == list.size() ? tree : null;
    }

    private static boolean fits(Tree pattern, Tree tree, List<Integer> gaps) {
        if (pattern.head == GAP) {
            gaps.add(tree.place);
            return true;
        }
        if (pattern.head != tree.head) {
            return false;
        }
        for (int i = 0; i < pattern.parts.size(); i++) {
            if (!fits(pattern.parts.get(i), tree.parts.get(i), gaps)) {
                return false;
            }
        }
        return true;
    }

    private final List<List<Integer>> patterns = new ArrayList<>();
    private final List<Integer> subject = new ArrayList<>();

    private ModelTest() {
        for (int p = 0; p < 4; p++) {
            patterns.add(new ArrayList<>());
        }
    }

    private static boolean isPattern(int p) {
        return 0 <= p && p <= 3;
    }

    private List<Tree> nodes() {
        List<Tree> index = new ArrayList<>();
        return whole(subject) != null && read(subject, 0, index) != null ? index : List.of();
    }

    private Tree node(int n) {
        List<Tree> nodes = nodes();
        return 0 <= n && n < nodes.size() ? nodes.get(n) : null;
    }

    private static int add(List<Integer> list, int token, int room) {
        if (whole(list) != null || list.size() == room) {
            return FULL;
        }
        list.add(token);
        return list.size();
    }

    private static int take(List<Integer> list) {
        return list.isEmpty() ? NONE : list.remove(list.size() - 1);
    }

    /** The places of the gaps when pattern p fits at node n, else null. */
    private List<Integer> gaps(int p, int n) {
        if (!isPattern(p) || node(n) == null || whole(patterns.get(p)) == null) {
            return null;
        }
        List<Integer> gaps = new ArrayList<>();
        return fits(whole(patterns.get(p)), node(n), gaps) ? gaps : null;
    }

    private int fitsAt(int n) {
        int set = 0;
        for (int p = 0; p < 4; p++) {
            set += gaps(p, n) != null ? 1 << p : 0;
        }
        return set;
    }

    private int count(int p) {
        int found = 0;
        for (int n = 0; n < 25; n++) {
            found += gaps(p, n) != null ? 1 : 0;
        }
        return found;
    }

    private int next(int p, int n) {
        for (int node = 0; node < 25; node++) {
            if (node >= n && gaps(p, node) != null) {
                return node;
            }
        }
        return NONE;
    }

    private int gapAt(int p, int n, int k) {
        List<Integer> gaps = gaps(p, n);
        return gaps != null && 0 <= k && k < gaps.size() ? gaps.get(k) : NONE;
    }

    private int size(int n) {
        return node(n) == null ? NONE : node(n).text().replaceAll("[()]", "").length();
    }

    private boolean equal(int m, int n) {
        return node(m) != null && node(n) != null && node(m).text().equals(node(n).text());
    }

    private int kinds() {
        Set<Integer> sets = new HashSet<>();
        for (int n = 0; n < nodes().size(); n++) {
            sets.add(fitsAt(n));
        }
        return sets.size();
    }

    private int bare() {
        int found = 0;
        for (int n = 0; n < nodes().size(); n++) {
            found += fitsAt(n) == 0 ? 1 : 0;
        }
        return found;
    }

    /** By the meaning: p is tried on the trees that q fits, with several small trees in the gaps of q. */
    private boolean covers(int p, int q) {
        if (!isPattern(p) || !isPattern(q)) {
            return false;
        }
        Tree upper = whole(patterns.get(p));
        if (upper == null || whole(patterns.get(q)) == null) {
            return false;
        }
        List<List<Integer>> fills = List.of(List.of(4), List.of(5), List.of(2, 4), List.of(0, 5, 6));
        List<List<Integer>> trees = new ArrayList<>();
        trees.add(new ArrayList<>());
        for (int token : patterns.get(q)) {
            List<List<Integer>> longer = new ArrayList<>();
            for (List<Integer> tree : trees) {
                for (List<Integer> fill : token == GAP ? fills : List.of(List.of(token))) {
                    List<Integer> one = new ArrayList<>(tree);
                    one.addAll(fill);
                    longer.add(one);
                }
            }
            trees = longer;
        }
        for (List<Integer> tree : trees) {
            if (!fits(upper, whole(tree), new ArrayList<>())) {
                return false;
            }
        }
        return true;
    }

    private static long state = 20261115L;

    private static int pick(int bound) {
        state = state * 6364136223846793005L + 1442695040888963407L;
        return (int) ((state >>> 33) % bound);
    }

    private static int wild() {
        int[] values = {-1, -2, 4, 7, 8, 9, 25, 26, 36, 61, Integer.MIN_VALUE, Integer.MAX_VALUE};
        return values[pick(values.length)];
    }

    private static int some(int bound) {
        return pick(20) == 0 ? wild() : pick(bound);
    }

    /** Few operators make fits likely; the rest come in now and then. */
    private static int someToken(int bound) {
        int[] likely = {0, 0, 2, 4, 4, 5, 7};
        int token = pick(3) == 0 ? some(bound) : likely[pick(likely.length)];
        return token == GAP && bound == 7 ? 4 : token;
    }

    public static void main(String[] args) {
        for (int run = 0; run < RUNS; run++) {
            checks.topic("run " + run);
            ModelTest model = new ModelTest();
            PatternTables x = new PatternTables();
            int pruning = 0;
            for (int call = 0; call < CALLS; call++) {
                // Now and then several are pruned at once: else a full subject rarely changes its shape.
                int which = pruning > 0 ? PRUNE : pick(100);
                pruning = pruning > 0 ? pruning - 1 : pick(100) == 0 ? pick(8) : 0;
                if (which < ASK) {
                    model.change(x, which);
                } else {
                    model.ask(x, which);
                }
            }
        }
        checks.end();
    }

    private void change(PatternTables x, int which) {
        int p = some(4);
        if (which < 22) {
            int token = someToken(8);
            int due = !isPattern(p) || token < 0 || token > 7 ? NONE : add(patterns.get(p), token, 9);
            checks.due("extend(" + p + ", " + token + ")", due, x.extend(p, token));
        } else if (which < 26) {
            checks.due("shorten(" + p + ")", isPattern(p) ? take(patterns.get(p)) : NONE, x.shorten(p));
        } else if (which < PRUNE) {
            int op = someToken(7);
            int due = op < 0 || op > 6 ? NONE : add(subject, op, 25);
            checks.due("grow(" + op + ")", due, x.grow(op));
        } else {
            checks.due("prune()", take(subject), x.prune());
        }
    }

    private void ask(PatternTables x, int which) {
        int p = some(4);
        int q = some(4);
        int n = some(subject.size() + 1);
        int m = some(subject.size() + 1);
        int k = some(4);
        switch (which % 11) {
            case 0 -> checks.due("complete(" + p + ")",
                isPattern(p) && whole(patterns.get(p)) != null, x.complete(p));
            case 1 -> checks.due("whole()", whole(subject) != null, x.whole());
            case 2 -> checks.due("fitsAt(" + n + ")", fitsAt(n), x.fitsAt(n));
            case 3 -> checks.due("count(" + p + ")", count(p), x.count(p));
            case 4 -> checks.due("next(" + p + ", " + n + ")", next(p, n), x.next(p, n));
            case 5 -> checks.due("gapAt(" + p + ", " + n + ", " + k + ")", gapAt(p, n, k), x.gapAt(p, n, k));
            case 6 -> checks.due("size(" + n + ")", size(n), x.size(n));
            case 7 -> checks.due("equal(" + m + ", " + n + ")", equal(m, n), x.equal(m, n));
            case 8 -> checks.due("kinds()", kinds(), x.kinds());
            case 9 -> checks.due("covers(" + p + ", " + q + ")", covers(p, q), x.covers(p, q));
            default -> checks.due("bare()", bare(), x.bare());
        }
    }
}
