/** Promises 12 to 21: the calls of THE TREE. */
final class TreesTest {
    private static final long NO = MarkedCurves.NO;

    private final Check check;

    private TreesTest(Check check) {
        this.check = check;
    }

    static void run(Check check) {
        TreesTest test = new TreesTest(check);
        test.leaves();
        test.split();
        test.join();
        test.splitAt();
        test.may();
        test.valence();
        test.trees();
        test.tree();
        test.forget();
        test.onTree();
    }

    /** A desk with L and these SPLITS. */
    static MarkedCurves with(int l, int... splits) {
        MarkedCurves x = new MarkedCurves();
        x.leaves(l);
        for (int s : splits) {
            x.split(s);
        }
        return x;
    }

    private void splitsAre(MarkedCurves x, int... splits) {
        check.due("count(3)", x.count(3), splits.length);
        for (int k = 0; k < splits.length; k++) {
            check.due("splitAt(" + k + ")", x.splitAt(k), splits[k]);
        }
        check.due("splitAt behind the last", x.splitAt(splits.length), -2);
    }

    private void leaves() {
        check.promise(12);
        MarkedCurves x = new MarkedCurves();
        check.due("leaves(4)", x.leaves(4), 4);
        check.due("count(4)", x.count(4), 0);
        x.split(6);
        check.due("leaves(2)", x.leaves(2), -1);
        check.due("leaves(7)", x.leaves(7), -1);
        splitsAre(x, 6);
        check.due("leaves(4) with a SPLIT", x.leaves(4), 4);
        splitsAre(x);
        check.due("count(4)", x.count(4), 2);
        check.due("leaves(6)", x.leaves(6), 4);
        check.due("leaves(3)", x.leaves(3), 6);
        check.due("count(2)", x.count(2), 3);
        check.due("leaves(-3)", x.leaves(-3), -1);
        check.due("leaves(5)", x.leaves(5), 3);
    }

    private void split() {
        check.promise(13);
        MarkedCurves x = with(6);
        for (int s : new int[] {0, 1, 2, 3, 7, 32, 62, 63, 64, 66, 70, -2, -6, Integer.MIN_VALUE}) {
            check.due("split(" + s + ")", x.split(s), -1);
        }
        splitsAre(x);
        check.due("split(24)", x.split(24), 1);
        check.due("split(24) again", x.split(24), -5);
        check.due("split(12)", x.split(12), -5);
        check.due("split(6), apart", x.split(6), 2);
        check.due("split(30), around both", x.split(30), 3);
        check.due("split(14)", x.split(14), -5);
        splitsAre(x, 6, 24, 30);
        MarkedCurves inward = with(6, 30);
        check.due("split(14), within", inward.split(14), 2);
        check.due("split(12), within", inward.split(12), 3);
        check.due("split of three LEAVES", with(3).split(6), -1);
        check.due("split(14) of four LEAVES", with(4).split(14), -1);
        check.due("split(18) of four LEAVES", with(4).split(18), -1);
        check.due("split(18) of five LEAVES", with(5).split(18), 1);
    }

    private void join() {
        check.promise(14);
        MarkedCurves x = with(6, 6, 24, 30);
        check.due("join(62)", x.join(62), -1);
        check.due("join(0)", x.join(0), -1);
        check.due("join(7)", x.join(7), -1);
        check.due("join(min)", x.join(Integer.MIN_VALUE), -1);
        check.due("join(10)", x.join(10), -5);
        check.due("join(24)", x.join(24), 2);
        splitsAre(x, 6, 30);
        check.due("join(24) again", x.join(24), -5);
        check.due("join(30)", x.join(30), 1);
        check.due("join(6)", x.join(6), 0);
        splitsAre(x);
        check.due("join of three LEAVES", with(3).join(6), -1);
    }

    private void splitAt() {
        check.promise(15);
        MarkedCurves x = with(6, 48, 6, 54);
        splitsAre(x, 6, 48, 54);
        check.due("splitAt(-1)", x.splitAt(-1), -1);
        check.due("splitAt(min)", x.splitAt(Integer.MIN_VALUE), -1);
        check.due("splitAt(3)", x.splitAt(3), -2);
        check.due("splitAt(max)", x.splitAt(Integer.MAX_VALUE), -2);
    }

    private void may() {
        check.promise(16);
        MarkedCurves x = with(6, 14);
        check.due("may(14), there", x.may(14), 0);
        check.due("may(6), within", x.may(6), 1);
        check.due("may(30), around", x.may(30), 1);
        check.due("may(48), apart", x.may(48), 1);
        check.due("may(24), neither", x.may(24), 0);
        check.due("may(62)", x.may(62), -1);
        check.due("may(0)", x.may(0), -1);
        check.due("may(3)", x.may(3), -1);
        check.due("may(-14)", x.may(-14), -1);
        splitsAre(x, 14);
    }

    private void valence() {
        check.promise(17);
        MarkedCurves x = with(6, 6, 30);
        check.due("valence of the ROOT", x.valence(0), 3);
        check.due("valence(30)", x.valence(30), 4);
        check.due("valence(6)", x.valence(6), 3);
        check.due("valence(24)", x.valence(24), -5);
        check.due("valence(62)", x.valence(62), -1);
        check.due("valence(1)", x.valence(1), -1);
        check.due("valence(-6)", x.valence(-6), -1);
        check.due("valence of a STAR", with(6).valence(0), 6);
        check.due("valence of three LEAVES", with(3).valence(0), 3);
        MarkedCurves two = with(6, 6, 24);
        check.due("valence of two apart", two.valence(0), 4);
        MarkedCurves chain = with(6, 60, 56, 48);
        check.due("valence of a chain", chain.valence(0), 3);
        check.due("valence(60)", chain.valence(60), 3);
        check.due("valence(56)", chain.valence(56), 3);
        check.due("valence(48)", chain.valence(48), 3);
    }

    private void trees() {
        check.promise(18);
        int[][] counts = {{1, 0}, {1, 3, 0}, {1, 10, 15, 0}, {1, 25, 105, 105, 0}};
        MarkedCurves x = new MarkedCurves();
        for (int l = 3; l <= 6; l++) {
            for (int k = 0; k <= 9; k++) {
                int due = k <= l - 3 ? counts[l - 3][k] : 0;
                check.due("trees(" + l + ", " + k + ")", x.trees(l, k), due);
            }
        }
        check.due("trees(2, 0)", x.trees(2, 0), -1);
        check.due("trees(7, 0)", x.trees(7, 0), -1);
        check.due("trees(4, -1)", x.trees(4, -1), -1);
        check.due("trees(4, 10)", x.trees(4, 10), -1);
        check.due("trees(min, max)", x.trees(Integer.MIN_VALUE, Integer.MAX_VALUE), -1);
        check.due("count(2)", x.count(2), 4);
    }

    private void tree() {
        check.promise(19);
        MarkedCurves x = new MarkedCurves();
        check.due("tree(4, 1, 0, 0)", x.tree(4, 1, 0, 0), 6);
        check.due("tree(4, 1, 1, 0)", x.tree(4, 1, 1, 0), 10);
        check.due("tree(4, 1, 2, 0)", x.tree(4, 1, 2, 0), 12);
        check.due("tree(4, 1, 3, 0)", x.tree(4, 1, 3, 0), -2);
        check.due("tree(4, 1, 0, 1)", x.tree(4, 1, 0, 1), -2);
        check.due("tree(4, 0, 0, 0)", x.tree(4, 0, 0, 0), -2);
        check.due("tree(4, 2, 0, 0)", x.tree(4, 2, 0, 0), -2);
        check.due("tree(4, 9, 0, 0)", x.tree(4, 9, 0, 0), -2);
        check.due("tree(6, 3, 104, 2)", x.tree(6, 3, 104, 2), 60);
        check.due("tree(6, 3, 105, 2)", x.tree(6, 3, 105, 2), -2);
        check.due("tree(6, 3, max, max)", x.tree(6, 3, Integer.MAX_VALUE, Integer.MAX_VALUE), -2);
        int[][] wrong = {
            {2, 0, 0, 0}, {7, 1, 0, 0}, {-1, 1, 0, 0}, {4, -1, 0, 0}, {4, 10, 0, 0},
            {4, 1, -1, 0}, {4, 1, 0, -1}, {4, 1, 9, -1}, {4, 1, -1, 9}, {4, 9, -1, 0}
        };
        for (int[] w : wrong) {
            check.due("tree of what is not told", x.tree(w[0], w[1], w[2], w[3]), -1);
        }
        for (int l = 3; l <= 6; l++) {
            for (int k = 0; k <= 4; k++) {
                treesInOrder(l, k);
            }
        }
        check.due("count(3)", x.count(3), 0);
    }

    private void treesInOrder(int l, int k) {
        MarkedCurves x = new MarkedCurves();
        for (int i = 0; i < Trees.list(l, k).size(); i++) {
            for (int j = 0; j < k; j++) {
                check.due("tree(" + l + ", " + k + ", " + i + ", " + j + ")",
                    x.tree(l, k, i, j), Trees.list(l, k).get(i).get(j));
            }
        }
    }

    private void forget() {
        check.promise(20);
        MarkedCurves x = with(6, 6, 24, 30);
        check.due("forget(6)", x.forget(6), -1);
        check.due("forget(-1)", x.forget(-1), -1);
        // LEAF 5 is none of a SPLIT; 30 is all but LEAF 0 then.
        check.due("forget(5)", x.forget(5), 2);
        check.due("count(2)", x.count(2), 5);
        splitsAre(x, 6, 24);
        x.undo();
        splitsAre(x, 6, 24, 30);
        // LEAF 1 is 0 then: 6 has it and becomes all others, of 30 these are too few.
        check.due("forget(0)", x.forget(0), 2);
        splitsAre(x, 12, 28);
        // LEAVES 2 and 3 are 1 and 2 then; 28 is all but LEAF 0.
        check.due("forget(1)", x.forget(1), 1);
        splitsAre(x, 6);
        check.due("forget(3)", x.forget(3), 0);
        check.due("forget(0) of three", x.forget(0), -5);
        check.due("forget(3) of three", x.forget(3), -1);
        check.due("count(2)", x.count(2), 3);
        // 6 and 14 are one without LEAF 3.
        MarkedCurves two = with(6, 6, 14);
        check.due("forget(3), like ones", two.forget(3), 1);
        splitsAre(two, 6);
        MarkedCurves marks = with(4, 6);
        marks.mark(5);
        check.due("forget(0)", marks.forget(0), 0);
        check.due("MARKS stay", marks.of(0), 5);
    }

    private void onTree() {
        check.promise(21);
        MarkedCurves x = with(4);
        check.due("onTree() of no MARKS", x.onTree(), NO);
        for (int d : new int[] {1, 0, 0, 0}) {
            x.mark(d);
        }
        check.due("onTree() of a STAR", x.onTree(), 1);
        x.split(6);
        check.due("onTree() with a SPLIT", x.onTree(), 0);
        x.mark(0);
        check.due("onTree() of a MARK more", x.onTree(), NO);
        MarkedCurves six = with(6, 62 - 2);
        for (int d : new int[] {0, 0, 1, 1, 0, 0}) {
            six.mark(d);
        }
        // The ROOT: LEAVES 0, 1 and an EDGE: 1; the other NODE: 1 1 0 0 0: 2.
        check.due("onTree() of 0 0 and 1 1 0 0 0", six.onTree(), 2);
        six.genus(2);
        check.due("onTree(), whatever GENUS", six.onTree(), 2);
        six.order(3);
        check.due("onTree() of MARKS in another order", six.onTree(), 0);
        MarkedCurves five = with(5, 6);
        for (int d : new int[] {1, 0, 0, 0, 0}) {
            five.mark(d);
        }
        check.due("onTree() of LEAF 0 of power 1", five.onTree(), 1);
    }
}
