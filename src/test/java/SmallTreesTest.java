import java.util.ArrayList;
import java.util.HashMap;
import java.util.HashSet;
import java.util.List;
import java.util.Map;
import java.util.Set;

/**
 * Every small pattern on every small tree, by the words of "Terms": the trees
 * that a pattern fits are made by putting trees in place of its gaps, and
 * nothing is matched.
 */
public final class SmallTreesTest {
    private static final int[] PARTS = {2, 2, 1, 1, 0, 0, 0, 0};
    private static final int TREE_SIZE = 5;
    private static final int PATTERN_SIZE = 4;
    private static final Checks checks = new Checks();

    // Lists are kept as text, a digit for a token.
    private static final List<List<String>> treesBySize = listsBySize(7, TREE_SIZE);
    private static final List<String> trees = joined(treesBySize);
    private static final Set<String> treeSet = new HashSet<>(trees);
    private static final List<String> patterns = joined(listsBySize(8, PATTERN_SIZE));
    private static final Map<String, Set<String>> fitted = new HashMap<>();

    public static void main(String[] args) {
        checks.due("trees of 1 to 5 operators", 3 + 6 + 30 + 132 + 696, trees.size());
        checks.due("patterns of 1 to 4 tokens", 4 + 8 + 48 + 224, patterns.size());
        for (String pattern : patterns) {
            Set<String> made = new HashSet<>();
            fill(pattern, 0, "", made);
            fitted.put(pattern, made);
        }
        for (int from = 0; from < patterns.size(); from += 4) {
            List<String> four = patterns.subList(from, from + 4);
            for (String tree : trees) {
                lookAtFits(four, tree);
            }
        }
        for (String upper : patterns) {
            for (String lower : patterns) {
                lookAtCovers(upper, lower);
            }
        }
        checks.end();
    }

    /** At index s the complete lists of s tokens over the first tokens. */
    private static List<List<String>> listsBySize(int tokens, int greatest) {
        List<List<String>> bySize = new ArrayList<>();
        bySize.add(List.of());
        for (int size = 1; size <= greatest; size++) {
            List<String> lists = new ArrayList<>();
            for (int token = 0; token < tokens; token++) {
                if (PARTS[token] == 0 && size == 1) {
                    lists.add("" + token);
                } else if (PARTS[token] == 1) {
                    addWithParts(lists, token, bySize.get(size - 1), List.of(""));
                } else if (PARTS[token] == 2) {
                    for (int first = 1; first < size - 1; first++) {
                        addWithParts(lists, token, bySize.get(first), bySize.get(size - 1 - first));
                    }
                }
            }
            bySize.add(lists);
        }
        return bySize;
    }

    private static void addWithParts(List<String> lists, int token, List<String> firsts, List<String> seconds) {
        for (String first : firsts) {
            for (String second : seconds) {
                lists.add(token + first + second);
            }
        }
    }

    private static List<String> joined(List<List<String>> bySize) {
        List<String> all = new ArrayList<>();
        bySize.forEach(all::addAll);
        return all;
    }

    /** All trees of at most five operators that can be got from the pattern. */
    private static void fill(String pattern, int from, String made, Set<String> all) {
        int left = pattern.length() - from;
        if (left == 0) {
            all.add(made);
            return;
        }
        if (pattern.charAt(from) != '7') {
            fill(pattern, from + 1, made + pattern.charAt(from), all);
            return;
        }
        for (int size = 1; made.length() + size + left - 1 <= TREE_SIZE; size++) {
            for (String tree : treesBySize.get(size)) {
                fill(pattern, from + 1, made + tree, all);
            }
        }
    }

    private static void extend(PatternTables x, int p, String tokens) {
        for (char token : tokens.toCharArray()) {
            x.extend(p, token - '0');
        }
    }

    /** The part at node n is the only tree that the list goes on with there. */
    private static String part(String tree, int n) {
        for (int end = n + 1; end <= tree.length(); end++) {
            if (treeSet.contains(tree.substring(n, end))) {
                return tree.substring(n, end);
            }
        }
        throw new IllegalStateException(tree + " has no node " + n);
    }

    private static PatternTables table(List<String> four, String tree) {
        PatternTables x = new PatternTables();
        for (int p = 0; p < 4; p++) {
            extend(x, p, four.get(p));
        }
        for (char op : tree.toCharArray()) {
            x.grow(op - '0');
        }
        return x;
    }

    private static void lookAtFits(List<String> four, String tree) {
        checks.topic("patterns " + four + " on " + tree);
        PatternTables x = table(four, tree);
        int[] counts = new int[4];
        int bare = 0;
        Set<Integer> sets = new HashSet<>();
        for (int n = 0; n < tree.length(); n++) {
            String part = part(tree, n);
            int set = 0;
            for (int p = 0; p < 4; p++) {
                if (fitted.get(four.get(p)).contains(part)) {
                    set |= 1 << p;
                    counts[p]++;
                }
            }
            bare += set == 0 ? 1 : 0;
            sets.add(set);
            checks.due("fitsAt(" + n + ")", set, x.fitsAt(n));
            checks.due("size(" + n + ")", part.length(), x.size(n));
        }
        for (int p = 0; p < 4; p++) {
            checks.due("count(" + p + ")", counts[p], x.count(p));
        }
        checks.due("bare()", bare, x.bare());
        checks.due("kinds()", sets.size(), x.kinds());
    }

    /** Five operators are enough: if upper misses a tree that lower fits, it misses one with single operators in the gaps. */
    private static void lookAtCovers(String upper, String lower) {
        checks.topic("patterns " + upper + " and " + lower);
        PatternTables x = new PatternTables();
        extend(x, 0, upper);
        extend(x, 1, lower);
        checks.due("covers(0, 1)", fitted.get(upper).containsAll(fitted.get(lower)), x.covers(0, 1));
    }
}
