import java.util.ArrayList;
import java.util.Collections;
import java.util.HashMap;
import java.util.List;
import java.util.Map;
import java.util.Set;
import java.util.TreeSet;

/** SPLITS and TREES word for word as the document tells them, on sets of LEAVES. */
final class Trees {
    private static final Map<String, List<List<Integer>>> LISTED = new HashMap<>();

    private Trees() {
    }

    static Set<Integer> leaves(int s) {
        Set<Integer> leaves = new TreeSet<>();
        for (int k = 0; k < 32; k++) {
            if ((s >>> k & 1) == 1) {
                leaves.add(k);
            }
        }
        return leaves;
    }

    static int bits(Set<Integer> leaves) {
        int s = 0;
        for (int k : leaves) {
            s += 1 << k;
        }
        return s;
    }

    static boolean isSplit(Set<Integer> leaves, int l) {
        for (int k : leaves) {
            if (k < 1 || k >= l) {
                return false;
            }
        }
        return leaves.size() >= 2 && leaves.size() <= l - 2;
    }

    static boolean isSplit(int s, int l) {
        return isSplit(leaves(s), l);
    }

    static boolean together(int s, int t) {
        Set<Integer> one = leaves(s);
        Set<Integer> two = leaves(t);
        return one.containsAll(two) || two.containsAll(one) || Collections.disjoint(one, two);
    }

    static boolean fits(Set<Integer> tree, int s) {
        for (int t : tree) {
            if (s == t || !together(s, t)) {
                return false;
            }
        }
        return true;
    }

    private static boolean properlyWithin(Set<Integer> one, Set<Integer> two) {
        return two.containsAll(one) && !one.equals(two);
    }

    /** What is at a NODE (s 0: the ROOT): its LEAVES, and -1 for each EDGE. */
    static List<Integer> at(Set<Integer> tree, int l, int s) {
        Set<Integer> under = new TreeSet<>();
        if (s == 0) {
            for (int k = 1; k < l; k++) {
                under.add(k);
            }
        } else {
            under.addAll(leaves(s));
        }
        List<Set<Integer>> lesser = new ArrayList<>();
        for (int t : tree) {
            if (properlyWithin(leaves(t), under)) {
                lesser.add(leaves(t));
            }
        }
        List<Integer> at = new ArrayList<>();
        at.add(s == 0 ? 0 : -1);
        for (int k : under) {
            if (lesser.stream().noneMatch(t -> t.contains(k))) {
                at.add(k);
            }
        }
        for (Set<Integer> t : lesser) {
            if (lesser.stream().noneMatch(u -> properlyWithin(t, u))) {
                at.add(-1);
            }
        }
        return at;
    }

    /** All TREES of l LEAVES with k SPLITS in order. */
    static List<List<Integer>> list(int l, int k) {
        return LISTED.computeIfAbsent(l + " " + k, key -> {
            List<List<Integer>> listed = new ArrayList<>();
            enlist(l, k, new ArrayList<>(), listed);
            listed.sort((one, two) -> {
                for (int i = 0; i < k; i++) {
                    if (!one.get(i).equals(two.get(i))) {
                        return one.get(i) - two.get(i);
                    }
                }
                return 0;
            });
            return listed;
        });
    }

    // From the greatest SPLIT down, so that the order is none that comes by itself.
    private static void enlist(int l, int k, List<Integer> chosen, List<List<Integer>> listed) {
        if (chosen.size() == k) {
            List<Integer> tree = new ArrayList<>(chosen);
            Collections.sort(tree);
            listed.add(tree);
            return;
        }
        int top = chosen.isEmpty() ? 1 << l : chosen.get(chosen.size() - 1);
        for (int s = top - 1; s > 0; s--) {
            if (isSplit(s, l) && fits(new TreeSet<>(chosen), s)) {
                chosen.add(s);
                enlist(l, k, chosen, listed);
                chosen.remove(chosen.size() - 1);
            }
        }
    }

    static Set<Integer> forget(Set<Integer> tree, int l, int leaf) {
        Set<Integer> left = new TreeSet<>();
        for (int s : tree) {
            Set<Integer> renamed = new TreeSet<>();
            for (int k : leaves(s)) {
                if (k != leaf) {
                    renamed.add(k > leaf ? k - 1 : k);
                }
            }
            if (renamed.contains(0)) {
                Set<Integer> others = new TreeSet<>();
                for (int k = 0; k < l - 1; k++) {
                    if (!renamed.contains(k)) {
                        others.add(k);
                    }
                }
                renamed = others;
            }
            if (isSplit(renamed, l - 1)) {
                left.add(bits(renamed));
            }
        }
        return left;
    }

    static Fraction onTree(Set<Integer> tree, int l, List<Integer> powers) {
        Fraction product = Fraction.of(1, 1);
        Set<Integer> nodes = new TreeSet<>(tree);
        nodes.add(0);
        for (int s : nodes) {
            List<Integer> row = new ArrayList<>();
            for (int k : at(tree, l, s)) {
                row.add(k == -1 ? 0 : powers.get(k));
            }
            product = product.times(Marks.number(0, row));
        }
        return product;
    }
}
