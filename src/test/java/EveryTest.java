import java.util.ArrayList;
import java.util.Collections;
import java.util.List;
import java.util.TreeSet;

/** Every row of powers whose NUMBER is not 0, and every TREE, set against the model. */
final class EveryTest {
    private final Check check;

    private EveryTest(Check check) {
        this.check = check;
    }

    static void run(Check check) {
        EveryTest test = new EveryTest(check);
        for (int g = 0; g <= 2; g++) {
            for (int n = 0; n <= 8; n++) {
                test.rows(g, n, 12, 3 * g - 3 + n, new ArrayList<>());
            }
        }
        for (int l = 3; l <= 6; l++) {
            for (int k = 0; k <= l - 3; k++) {
                for (List<Integer> tree : Trees.list(l, k)) {
                    test.tree(l, tree);
                }
            }
        }
        test.numbersOfKappaOfEight();
    }

    private void rows(int g, int n, int most, int sum, List<Integer> falling) {
        if (falling.size() == n) {
            // One less or more than is due, too: these NUMBERS are 0.
            if (sum >= -1 && sum <= 1) {
                row(g, falling);
            }
            return;
        }
        for (int d = 0; d <= most && d <= sum + 1; d++) {
            falling.add(d);
            rows(g, n, d, sum - d, falling);
            falling.remove(falling.size() - 1);
        }
    }

    private static MarkedCurves deskOf(int g, List<Integer> powers) {
        MarkedCurves x = new MarkedCurves();
        x.genus(g);
        for (int d : powers) {
            x.mark(d);
        }
        return x;
    }

    private void row(int g, List<Integer> powers) {
        MarkedCurves x = deskOf(g, powers);
        String name = " of " + g + ":" + powers;
        check.promise(10);
        check.due("met()" + name, x.met(), Marks.met(g, powers));
        check.promise(9);
        check.due("rule()" + name, x.rule(), Marks.rule(g, powers));
        Fraction number = Marks.number(g, powers);
        check.promise(8);
        check.due("number(0)" + name, x.number(0), number.part(0));
        check.due("number(1)" + name, x.number(1), number.part(1));
        x.hold(0, 0);
        check.promise(31);
        check.due("taken(0, 0)" + name, x.taken(0, 0), number.part(0) % 1000003);
    }

    /** All KAPPA with one object, so that what is kept of NUMBERS fills as far as it can. */
    private void numbersOfKappaOfEight() {
        MarkedCurves x = new MarkedCurves();
        for (int g = 0; g <= 2; g++) {
            x.genus(g);
            for (int n = 0; n <= 8; n++) {
                kappasOf(x, g, n, 12, new ArrayList<>());
            }
        }
    }

    private void kappasOf(MarkedCurves x, int g, int n, int most, List<Integer> falling) {
        int sum = 0;
        for (int d : falling) {
            sum += d;
        }
        int dimension = 3 * g - 3 + n - sum;
        if (dimension < 0) {
            return;
        }
        if (falling.size() == n) {
            putMarks(x, falling);
            kappas(x, g, falling, dimension);
            return;
        }
        for (int d = 0; d <= most; d++) {
            falling.add(d);
            kappasOf(x, g, n, d, falling);
            falling.remove(falling.size() - 1);
        }
    }

    private void putMarks(MarkedCurves x, List<Integer> powers) {
        for (int n = x.count(1); n > 0; n--) {
            x.take(0);
        }
        for (int d : powers) {
            x.mark(d);
        }
    }

    private void kappas(MarkedCurves x, int g, List<Integer> powers, int dimension) {
        for (int a = -1; a <= 9; a++) {
            for (int b = -1; b <= 9; b++) {
                for (int c = -1; c <= 9; c++) {
                    boolean told = (a != -1 || b == -1) && (b != -1 || c == -1);
                    int all = Math.max(a, 0) + Math.max(b, 0) + Math.max(c, 0);
                    if (told && all == dimension) {
                        kappa(x, g, powers, a, b, c);
                    }
                }
            }
        }
    }

    private void kappa(MarkedCurves x, int g, List<Integer> powers, int a, int b, int c) {
        check.promise(11);
        Fraction kappa = Marks.kappa(g, powers, a, b, c);
        String name = "kappa(" + a + ", " + b + ", " + c + ") of " + g + ":" + powers;
        check.due(name, x.kappa(a, b, c, 0), kappa.part(0));
        check.due(name, x.kappa(a, b, c, 1), kappa.part(1));
    }

    private void tree(int l, List<Integer> splits) {
        MarkedCurves x = new MarkedCurves();
        x.leaves(l);
        List<Integer> order = new ArrayList<>(splits);
        Collections.reverse(order);
        check.promise(13);
        for (int k = 0; k < order.size(); k++) {
            check.due("split of " + splits, x.split(order.get(k)), k + 1);
        }
        TreeSet<Integer> tree = new TreeSet<>(splits);
        check.promise(17);
        check.due("valence of the ROOT of " + splits, x.valence(0), Trees.at(tree, l, 0).size());
        for (int s : splits) {
            check.due("valence of " + s + " of " + splits, x.valence(s), Trees.at(tree, l, s).size());
        }
        check.promise(16);
        for (int s = -1; s <= 64; s++) {
            int may = s < 0 || !Trees.isSplit(s, l) ? -1 : Trees.fits(tree, s) ? 1 : 0;
            check.due("may(" + s + ") of " + splits, x.may(s), may);
        }
        forgetEach(x, l, tree);
        onTreeOfEach(x, l, tree, new ArrayList<>());
    }

    private void forgetEach(MarkedCurves x, int l, TreeSet<Integer> tree) {
        check.promise(20);
        for (int leaf = 0; leaf < l && l > 3; leaf++) {
            List<Integer> left = new ArrayList<>(new TreeSet<>(Trees.forget(tree, l, leaf)));
            check.due("forget(" + leaf + ") of " + tree, x.forget(leaf), left.size());
            for (int k = 0; k < left.size(); k++) {
                check.due("splitAt(" + k + ")", x.splitAt(k), left.get(k));
            }
            x.undo();
        }
    }

    /** Powers 0 .. 2 for all LEAVES, as far as the product can be above 0. */
    private void onTreeOfEach(MarkedCurves x, int l, TreeSet<Integer> tree, List<Integer> powers) {
        int sum = 0;
        for (int d : powers) {
            sum += d;
        }
        if (powers.size() == l) {
            putMarks(x, powers);
            check.promise(21);
            check.due("onTree() of " + tree + " " + powers, x.onTree(),
                Trees.onTree(tree, l, powers).part(0));
            return;
        }
        for (int d = 0; d <= 2 && sum + d <= l - 3; d++) {
            powers.add(d);
            onTreeOfEach(x, l, tree, powers);
            powers.remove(powers.size() - 1);
        }
    }
}
