/** The boundaries that the document names of THE TREE (promises 12 to 21). */
final class TreesEdges extends Edges {
    private TreesEdges(Check check, Boundaries boundaries) {
        super(check, boundaries);
    }

    static void run(Check check, Boundaries boundaries) {
        TreesEdges test = new TreesEdges(check, boundaries);
        test.leaves();
        test.splitThatIsNone();
        test.splitThatDoesNotGo();
        test.join();
        test.splitAt();
        test.may();
        test.nodes();
        test.valence();
        test.trees();
        test.tree();
        test.treesInOrder();
        test.forget();
        test.forgottenLeaf();
        test.onTree();
        test.numbersOnTheTree();
    }

    private void leaves() {
        boundaries.promise(12, "L becomes l (3 .. 6), THE TREE has no SPLITS");
        MarkedCurves x = desk("0:/4;12");
        check.due("leaves(6), the most", x.leaves(6), 4);
        isAs(x, "0:/6");
        check.due("leaves(3), the fewest", x.leaves(3), 6);
        isAs(x, "0:/3");
        MarkedCurves same = desk("0:/6;12;34;1234");
        check.due("leaves(6), as it is", same.leaves(6), 6);
        isAs(same, "0:/6");
        boundaries.promise(12, "what L was. BAD.");
        MarkedCurves bad = desk("0:/5;12");
        check.due("leaves(2)", bad.leaves(2), -1);
        check.due("leaves(7)", bad.leaves(7), -1);
        check.due("leaves(0)", bad.leaves(0), -1);
        for (int l : FAR) {
            check.due("leaves(" + l + ")", bad.leaves(l), -1);
        }
        isAs(bad, "0:/5;12");
    }

    /** What is a SPLIT by the document's words, told one by one. */
    private static boolean isSplit(int s, int l) {
        int leaves = 0;
        for (int k = 1; k < l; k++) {
            leaves += s >> k & 1;
        }
        return s >= 0 && s < 1 << l && s % 2 == 0 && leaves >= 2 && leaves <= l - 2;
    }

    private void splitThatIsNone() {
        boundaries.promise(13, "BAD: it is none;");
        for (int l = 3; l <= 6; l++) {
            MarkedCurves x = desk("0:/" + l);
            for (int s = -70; s <= 140; s++) {
                if (!isSplit(s, l)) {
                    check.due("split(" + s + ") of " + l + " LEAVES", x.split(s), -1);
                }
            }
            for (int s : FAR) {
                check.due("split(" + s + ") of " + l + " LEAVES", x.split(s), -1);
            }
            isAs(x, "0:/" + l);
        }
        boundaries.terms(13, "without LEAF 0, of 2 to L less 2 of them.");
        check.due("split of LEAVES 1 2 of 4, the fewest and the most", desk("0:/4").split(6), 1);
        check.due("split of LEAVES 2 3 of 4", desk("0:/4").split(12), 1);
        check.due("split of LEAVES 1 2 3 of 4", desk("0:/4").split(14), -1);
        check.due("split of LEAVES 1 2 3 of 5, the most", desk("0:/5").split(14), 1);
        check.due("split of LEAVES 1 2 3 4 of 5", desk("0:/5").split(30), -1);
        check.due("split of LEAVES 1 2 3 4 of 6, the most", desk("0:/6").split(30), 1);
        check.due("split of LEAVES 1 2 3 4 5 of 6", desk("0:/6").split(62), -1);
        check.due("split of LEAVES 1 2 of 3", desk("0:/3").split(6), -1);
        check.due("split of LEAVES 0 1 of 6", desk("0:/6").split(3), -1);
        check.due("split of LEAF 5 of 6", desk("0:/6").split(32), -1);
        check.due("split of no LEAF", desk("0:/6").split(0), -1);
        boundaries.terms(13, "LEAVES 0 .. L less 1");
        check.due("split of LEAVES 4 5 of 6, the last", desk("0:/6").split(48), 1);
        check.due("split of LEAVES 4 5 of 5", desk("0:/5").split(48), -1);
        check.due("split of LEAVES 5 6 of 6", desk("0:/6").split(96), -1);
    }

    private void splitThatDoesNotGo() {
        boundaries.promise(13, "STATE: it is there, or does not GO TOGETHER with all that are.");
        MarkedCurves x = desk("0:/6;12;34");
        check.due("split(6), the first one", x.split(6), -5);
        check.due("split(24), the second one", x.split(24), -5);
        check.due("split(12), with neither", x.split(12), -5);
        check.due("split(14), not with the second", x.split(14), -5);
        check.due("split(28), not with the first", x.split(28), -5);
        isAs(x, "0:/6;12;34");
        boundaries.terms(13, "if one is within the other, or they have no LEAF in common.");
        check.due("split(30), both are within it", x.split(30), 3);
        isAs(x, "0:/6;12;34;1234");
        check.due("split(14), with one of three", x.split(14), -5);
        check.due("split(54), with one of three", x.split(54), -5);
        MarkedCurves apart = desk("0:/6;123");
        check.due("split(48), no LEAF in common", apart.split(48), 2);
        check.due("split(12), within", apart.split(12), 3);
        check.due("split(6), one LEAF in common", apart.split(6), -5);
        boundaries.terms(13, "A TREE: some unlike SPLITS that all GO TOGETHER.");
        check.due("split(12) again", apart.split(12), -5);
        // L less 3 SPLITS are the most: no other one goes together with these.
        for (int s = 0; s < 64; s++) {
            check.due("split(" + s + ")", apart.split(s), isSplit(s, 6) ? -5 : -1);
        }
        isAs(apart, "0:/6;23;123;45");
    }

    private void join() {
        boundaries.promise(14, "A SPLIT is none of THE TREE any more");
        MarkedCurves x = desk("0:/6;12;34;1234");
        check.due("join(30), the last", x.join(30), 2);
        check.due("join(6), the first", x.join(6), 1);
        check.due("join(24), the only one", x.join(24), 0);
        isAs(x, "0:/6");
        boundaries.promise(14, "BAD: it is none; STATE: it is not there.");
        check.due("join(24) again", x.join(24), -5);
        for (int l = 3; l <= 6; l++) {
            MarkedCurves none = desk("0:/" + l);
            for (int s = -70; s <= 140; s++) {
                check.due("join(" + s + ") of " + l, none.join(s), isSplit(s, l) ? -5 : -1);
            }
            for (int s : FAR) {
                check.due("join(" + s + ") of " + l, none.join(s), -1);
            }
        }
        MarkedCurves some = desk("0:/6;12");
        check.due("join(70)", some.join(70), -1);
        check.due("join(24), which could come", some.join(24), -5);
        check.due("join(12), which could not", some.join(12), -5);
        isAs(some, "0:/6;12");
    }

    private void splitAt() {
        boundaries.promise(15, "BAD: k below 0; NOT: there are not as many.");
        MarkedCurves x = desk("0:/6;1234;34;12");
        check.due("splitAt(0), the first", x.splitAt(0), 6);
        check.due("splitAt(2), the last", x.splitAt(2), 30);
        check.due("splitAt(3)", x.splitAt(3), -2);
        check.due("splitAt(-1)", x.splitAt(-1), -1);
        check.due("splitAt(0) of none", desk("0:/6").splitAt(0), -2);
        check.due("splitAt(-1) of none", desk("0:/6").splitAt(-1), -1);
        for (int k : FAR) {
            check.due("splitAt(" + k + ")", x.splitAt(k), k < 0 ? -1 : -2);
        }
        check.due("splitAt(0), the highest SPLIT", desk("0:/6;2345").splitAt(0), 60);
    }

    private void may() {
        boundaries.promise(16, "Whether a SPLIT could come to THE TREE (1, 0).");
        MarkedCurves x = desk("0:/6;12;34");
        check.due("may(6), it is there", x.may(6), 0);
        check.due("may(30), both within", x.may(30), 1);
        check.due("may(28), not with all", x.may(28), 0);
        check.due("may(48), one LEAF in common", x.may(48), 0);
        isAs(x, "0:/6;12;34");
        boundaries.promise(16, "BAD: it is none.");
        for (int l = 3; l <= 6; l++) {
            MarkedCurves none = desk("0:/" + l);
            for (int s = -70; s <= 140; s++) {
                check.due("may(" + s + ") of " + l, none.may(s), isSplit(s, l) ? 1 : -1);
            }
            for (int s : FAR) {
                check.due("may(" + s + ") of " + l, none.may(s), -1);
            }
        }
    }

    private void nodes() {
        boundaries.terms(17, "its ROOT, at which LEAF 0 is, and one for each SPLIT.");
        check.due("valence(0), a ROOT alone", desk("0:/3").valence(0), 3);
        check.due("valence(0), a ROOT alone", desk("0:/6").valence(0), 6);
        boundaries.terms(17, "(under the ROOT all but LEAF 0)");
        check.due("valence(0), all under one SPLIT but LEAF 5", desk("0:/6;1234").valence(0), 3);
        check.due("valence(0), all under one SPLIT but LEAF 1", desk("0:/6;2345").valence(0), 3);
        boundaries.terms(17, "within no other one of the TREE that is within it, too (as one "
            + "EDGE)");
        MarkedCurves chain = desk("0:/6;12;123;1234");
        check.due("valence(0), an EDGE to the outermost", chain.valence(0), 3);
        check.due("valence(30), an EDGE to the next", chain.valence(30), 3);
        check.due("valence(6), none within it", chain.valence(6), 3);
        check.due("valence(0), two EDGES", desk("0:/6;12;34").valence(0), 4);
        boundaries.terms(17, "for a SPLIT's NODE the EDGE that leads up, for the ROOT LEAF 0.");
        check.due("valence(6), two LEAVES and the EDGE up", desk("0:/4;12").valence(6), 3);
        check.due("valence(0), LEAVES 0 and 3 and an EDGE", desk("0:/4;12").valence(0), 3);
        check.due("valence(30), four LEAVES and the EDGE up", desk("0:/6;1234").valence(30), 5);
    }

    private void valence() {
        boundaries.promise(17, "(s 0: of the ROOT)");
        check.due("valence(0)", desk("0:/5;34").valence(0), 4);
        boundaries.promise(17, "BAD: s is neither 0 nor a SPLIT; STATE: it is not there.");
        for (int l = 3; l <= 6; l++) {
            MarkedCurves none = desk("0:/" + l);
            for (int s = -70; s <= 140; s++) {
                int due = s == 0 ? l : isSplit(s, l) ? -5 : -1;
                check.due("valence(" + s + ") of " + l, none.valence(s), due);
            }
            for (int s : FAR) {
                check.due("valence(" + s + ") of " + l, none.valence(s), -1);
            }
        }
        MarkedCurves x = desk("0:/6;12;34");
        check.due("valence(30), which could come", x.valence(30), -5);
        check.due("valence(14), which could not", x.valence(14), -5);
        check.due("valence(62), all but LEAF 0", x.valence(62), -1);
        x.join(6);
        check.due("valence(6), there no more", x.valence(6), -5);
    }

    private void trees() {
        boundaries.promise(18, "How many TREES of l (3 .. 6) LEAVES there are with k (0 .. 9) "
            + "SPLITS.");
        MarkedCurves x = desk("0:/5;12");
        check.due("trees(3, 0)", x.trees(3, 0), 1);
        check.due("trees(3, 1)", x.trees(3, 1), 0);
        check.due("trees(4, 1)", x.trees(4, 1), 3);
        check.due("trees(4, 2)", x.trees(4, 2), 0);
        check.due("trees(5, 2)", x.trees(5, 2), 15);
        check.due("trees(5, 3)", x.trees(5, 3), 0);
        check.due("trees(6, 0)", x.trees(6, 0), 1);
        check.due("trees(6, 3)", x.trees(6, 3), 105);
        for (int k = 4; k <= 9; k++) {
            check.due("trees(6, " + k + ")", x.trees(6, k), 0);
            check.due("trees(3, " + k + ")", x.trees(3, k), 0);
        }
        boundaries.promise(18, "SPLITS. BAD.");
        check.due("trees(2, 0)", x.trees(2, 0), -1);
        check.due("trees(7, 0)", x.trees(7, 0), -1);
        check.due("trees(6, -1)", x.trees(6, -1), -1);
        check.due("trees(6, 10)", x.trees(6, 10), -1);
        for (int far : FAR) {
            check.due("trees(" + far + ", 0)", x.trees(far, 0), -1);
            check.due("trees(6, " + far + ")", x.trees(6, far), -1);
        }
    }

    private void tree() {
        boundaries.promise(19, "BAD: l, k, i or j below 0; NOT: there are not as many.");
        MarkedCurves x = desk("0:/5;12");
        int[][] bad = {
            {-1, 0, 0, 0}, {2, 0, 0, 0}, {7, 0, 0, 0}, {6, -1, 0, 0}, {6, 10, 0, 0}, {6, 1, -1, 0},
            {6, 1, 0, -1}, {6, 0, -1, -1}, {6, 9, 0, -1}, {3, 0, -1, 0}, {2, 10, -1, -1},
            {6, 3, 105, -1}, {6, 3, -1, 3}
        };
        for (int[] t : bad) {
            treeIs(x, t, -1);
        }
        int[][] not = {
            {3, 0, 0, 0}, {6, 0, 0, 0}, {3, 1, 0, 0}, {4, 2, 0, 0}, {6, 4, 0, 0}, {6, 9, 0, 0},
            {4, 1, 3, 0}, {4, 1, 0, 1}, {5, 2, 15, 0}, {6, 1, 25, 0}, {6, 2, 105, 1}, {6, 3, 105, 2},
            {6, 3, 0, 3}, {6, 3, 104, 3}, {6, 3, Integer.MAX_VALUE, 0}, {6, 3, 0, Integer.MAX_VALUE},
            {6, 3, Integer.MAX_VALUE, Integer.MAX_VALUE}, {6, 3, 1 << 30, 0}
        };
        for (int[] t : not) {
            treeIs(x, t, -2);
        }
        for (int far : FAR) {
            treeIs(x, new int[] {far, 1, 0, 0}, -1);
            treeIs(x, new int[] {6, far, 0, 0}, -1);
            treeIs(x, new int[] {6, 1, far, 0}, far < 0 ? -1 : -2);
            treeIs(x, new int[] {6, 1, 0, far}, far < 0 ? -1 : -2);
        }
        isAs(x, "0:/5;12");
    }

    private void treeIs(MarkedCurves x, int[] t, int due) {
        check.due("tree(" + t[0] + ", " + t[1] + ", " + t[2] + ", " + t[3] + ")",
            x.tree(t[0], t[1], t[2], t[3]), due);
    }

    private void treesInOrder() {
        boundaries.terms(19, "the lesser first SPLIT first, of like ones the lesser second one, "
            + "and so on.");
        MarkedCurves x = new MarkedCurves();
        // The first, where the first SPLIT is another, and the last.
        treeIs(x, new int[] {4, 1, 0, 0}, 6);
        treeIs(x, new int[] {4, 1, 2, 0}, 12);
        treeIs(x, new int[] {5, 2, 0, 0}, 6);
        treeIs(x, new int[] {5, 2, 0, 1}, 14);
        treeIs(x, new int[] {5, 2, 1, 1}, 22);
        treeIs(x, new int[] {5, 2, 2, 1}, 24);
        treeIs(x, new int[] {5, 2, 3, 0}, 10);
        treeIs(x, new int[] {5, 2, 14, 0}, 24);
        treeIs(x, new int[] {5, 2, 14, 1}, 28);
        treeIs(x, new int[] {6, 1, 24, 0}, 60);
        treeIs(x, new int[] {6, 2, 104, 0}, 56);
        treeIs(x, new int[] {6, 2, 104, 1}, 60);
        treeIs(x, new int[] {6, 3, 0, 0}, 6);
        treeIs(x, new int[] {6, 3, 0, 1}, 14);
        treeIs(x, new int[] {6, 3, 0, 2}, 30);
        treeIs(x, new int[] {6, 3, 1, 2}, 46);
        treeIs(x, new int[] {6, 3, 104, 0}, 48);
        treeIs(x, new int[] {6, 3, 104, 1}, 56);
        treeIs(x, new int[] {6, 3, 104, 2}, 60);
    }

    private void forget() {
        boundaries.promise(20, "how many SPLITS it has. BAD; STATE: L is 3.");
        MarkedCurves x = desk("0:/5;12");
        check.due("forget(5)", x.forget(5), -1);
        check.due("forget(-1)", x.forget(-1), -1);
        for (int leaf : FAR) {
            check.due("forget(" + leaf + ")", x.forget(leaf), -1);
        }
        check.due("forget(32), bits are counted round", x.forget(32), -1);
        isAs(x, "0:/5;12");
        MarkedCurves three = desk("0:/3");
        for (int leaf = 0; leaf < 3; leaf++) {
            check.due("forget(" + leaf + ") of three", three.forget(leaf), -5);
        }
        check.due("forget(3) of three", three.forget(3), -1);
        check.due("forget(-1) of three", three.forget(-1), -1);
        isAs(three, "0:/3");
        for (int leaf = 0; leaf < 4; leaf++) {
            MarkedCurves four = desk("0:/4;12");
            check.due("forget(" + leaf + ") of four", four.forget(leaf), 0);
            isAs(four, "0:/3");
        }
        boundaries.terms(20, "MARKS stay when a LEAF goes.");
        MarkedCurves marks = desk("1:4,5,6,7/4");
        check.due("forget(0)", marks.forget(0), 0);
        isAs(marks, "1:4,5,6,7/3");
    }

    private void forgotten(String text, int leaf, String then) {
        MarkedCurves x = desk(text);
        int splits = x.forget(leaf);
        isAs(x, then);
        check.due("forget(" + leaf + ") of " + text, splits, x.count(3));
    }

    private void forgottenLeaf() {
        boundaries.terms(20, "(LEAVES behind it have numbers one less; if it is LEAF 0, LEAF 1 "
            + "is LEAF 0 then)");
        forgotten("0:/6;45", 1, "0:/5;34");
        forgotten("0:/6;45", 3, "0:/5;34");
        forgotten("0:/6;12", 3, "0:/5;12");
        forgotten("0:/6;12", 5, "0:/5;12");
        forgotten("0:/6;23", 0, "0:/5;12");
        boundaries.terms(20, "if that has LEAF 0 in it, all others;");
        forgotten("0:/6;12", 0, "0:/5;234");
        forgotten("0:/6;123", 0, "0:/5;34");
        forgotten("0:/6;1234", 0, "0:/5");
        boundaries.terms(20, "those that are no SPLITS then are none of the TREE, like ones are "
            + "one.");
        forgotten("0:/6;12", 2, "0:/5");
        forgotten("0:/6;12", 1, "0:/5");
        forgotten("0:/6;1234", 5, "0:/5");
        forgotten("0:/6;12;123", 3, "0:/5;12");
        forgotten("0:/6;12;123;1234", 3, "0:/5;12;123");
        forgotten("0:/6;12;345", 0, "0:/5;234");
        forgotten("0:/6", 5, "0:/5");
        forgotten("0:/5;12;34", 0, "0:/4;23");
    }

    private void onTree() {
        boundaries.promise(21, "NO: STATE: there are not as many MARKS as LEAVES.");
        check.due("onTree() of no MARKS", new MarkedCurves().onTree(), NO);
        check.due("onTree() of one too few", desk("0:0,0,0/4").onTree(), NO);
        check.due("onTree() of as many", desk("0:0,0,0,1/4").onTree(), 1);
        check.due("onTree() of one too many", desk("0:0,0,0,1,0/4").onTree(), NO);
        check.due("onTree() of two for three", desk("0:0,0/3").onTree(), NO);
        check.due("onTree() of three for three, the fewest", desk("0:0,0,0/3").onTree(), 1);
        check.due("onTree() of six for six, the most", desk("0:1,1,1,0,0,0/6").onTree(), 6);
        check.due("onTree() of eight", desk("0:1,1,1,0,0,0,0,0/6").onTree(), NO);
        boundaries.terms(21, "if there are as many MARKS as LEAVES, LEAF k having power d(k)");
        check.due("onTree(), LEAF 0 has power 1", desk("0:1,0,0,0,0/5;34").onTree(), 1);
        check.due("onTree(), LEAF 4 has power 1", desk("0:0,0,0,0,1/5;34").onTree(), 0);
    }

    private void numbersOnTheTree() {
        boundaries.terms(21, "the powers are those of LEAVES that are at it, and 0 for each EDGE.");
        check.due("onTree() of a FULL TREE", desk("0:0,0,0,0,0,0/6;12;34;1234").onTree(), 1);
        check.due("onTree() of a FULL TREE, a power above 0",
            desk("0:0,0,0,0,0,1/6;12;34;1234").onTree(), 0);
        check.due("onTree(), 2 times 1", desk("0:0,0,1,1,0,0/6;2345").onTree(), 2);
        check.due("onTree(), 1 times 1", desk("0:0,1,0,0,0,0/6;34;345").onTree(), 1);
        check.due("onTree(), whatever GENUS is", desk("2:0,0,0,1/4").onTree(), 1);
        check.due("onTree(), one NUMBER is 0", desk("0:0,0,0,0,0,12/6;12").onTree(), 0);
    }
}
