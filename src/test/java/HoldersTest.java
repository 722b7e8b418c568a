/** Promises 29 to 39: HOLDERS, THE IMAGE and what is counted. */
final class HoldersTest {
    private static final long NO = MarkedCurves.NO;
    private static final int[] NO_HOLDERS = {-1, 6, Integer.MIN_VALUE, Integer.MAX_VALUE};

    private final Check check;

    private HoldersTest(Check check) {
        this.check = check;
    }

    static void run(Check check) {
        HoldersTest test = new HoldersTest(check);
        test.hold();
        test.lose();
        test.takenForANumber();
        test.takenForTrees();
        test.common();
        test.row();
        test.set();
        test.get();
        test.judge();
        test.image();
        test.restore();
        test.count();
    }

    private void hold() {
        check.promise(29);
        MarkedCurves x = TreesTest.with(5, 6, 24);
        x.mark(1);
        x.genus(1);
        for (int h : NO_HOLDERS) {
            check.due("hold(" + h + ", 0)", x.hold(h, 0), -1);
        }
        check.due("hold(0, 2)", x.hold(0, 2), -1);
        check.due("hold(0, -1)", x.hold(0, -1), -1);
        check.due("lose(0)", x.lose(0), 0);
        for (int h = 0; h < 6; h++) {
            check.due("hold a NUMBER", x.hold(h, 0), 1);
            check.due("it is held", x.taken(h, 0), 1);
            check.due("hold a TREE", x.hold(h, 1), 2);
            check.due("it is held", x.taken(h, 1), 2);
        }
        // What is held is as it was then.
        x.hold(0, 0);
        x.mark(7);
        x.leaves(6);
        check.due("the NUMBER as it was", x.taken(0, 0), 1);
        check.due("the TREE as it was", x.taken(1, 2), 5);
        check.due("hold of eight", MarksTest.with(0, 1, 1, 1, 1, 1, 1, 1, 1).hold(5, 0), 8);
    }

    private void lose() {
        check.promise(30);
        MarkedCurves x = new MarkedCurves();
        for (int h : NO_HOLDERS) {
            check.due("lose(" + h + ")", x.lose(h), -1);
        }
        check.due("lose nothing", x.lose(3), 0);
        x.hold(3, 0);
        check.due("lose a NUMBER", x.lose(3), 1);
        x.hold(3, 1);
        check.due("lose a TREE", x.lose(3), 2);
        x.row(3, 0);
        x.row(4, 0);
        check.due("lose a ROW", x.lose(3), 3);
        check.due("lose nothing", x.lose(3), 0);
        check.due("taken of what is lost", x.taken(3, 0), -11);
        check.due("another HOLDER", x.lose(4), 3);
    }

    private void takenForANumber() {
        check.promise(31);
        MarkedCurves x = MarksTest.with(2, 2, 3);
        for (int h : NO_HOLDERS) {
            check.due("taken(" + h + ", 0)", x.taken(h, 0), -1);
        }
        check.due("taken(0, 4) of nothing", x.taken(0, 4), -1);
        check.due("taken(0, -1) of nothing", x.taken(0, -1), -1);
        check.due("taken(0, 0) of nothing", x.taken(0, 0), -11);
        x.hold(0, 0);
        check.due("what is above the line", x.taken(0, 0), 29);
        for (int kind = 1; kind < 4; kind++) {
            check.due("another kind", x.taken(0, kind), -12);
        }
        check.due("taken(0, 4)", x.taken(0, 4), -1);
        x.row(1, 3);
        for (int kind = 0; kind < 4; kind++) {
            check.due("a ROW", x.taken(1, kind), -12);
        }
        MarkedCurves zero = new MarkedCurves();
        zero.hold(0, 0);
        check.due("a NUMBER that is 0", zero.taken(0, 0), 0);
        // In lowest terms it is 7 by 240, not 168 by 5760.
        MarkedCurves lowest = MarksTest.with(2, 2, 2, 2);
        lowest.hold(2, 0);
        check.due("lowest terms", lowest.taken(2, 0), 7);
    }

    private void takenForTrees() {
        check.promise(31);
        int[][] dues = {
            {0, 3, -12}, {0, -12, 4}, {1, 4, -12}, {0, -12, 6}, {1, -12, -12}, {2, -12, -12},
            {3, 6, -12}, {2, 5, -12}
        };
        MarkedCurves[] desks = {
            TreesTest.with(3), TreesTest.with(4), TreesTest.with(4, 6), TreesTest.with(6),
            TreesTest.with(6, 6), TreesTest.with(6, 6, 24), TreesTest.with(6, 6, 24, 30),
            TreesTest.with(5, 6, 14)
        };
        for (int i = 0; i < desks.length; i++) {
            desks[i].hold(4, 1);
            check.due("a TREE is no NUMBER", desks[i].taken(4, 0), -12);
            for (int kind = 1; kind < 4; kind++) {
                String call = "taken for kind " + kind + " of " + DeedsTest.textOf(desks[i]);
                check.due(call, desks[i].taken(4, kind), dues[i][kind - 1]);
            }
        }
    }

    private void common() {
        check.promise(32);
        MarkedCurves x = TreesTest.with(6, 6, 24, 30);
        for (int h : NO_HOLDERS) {
            check.due("common(" + h + ")", x.common(h), -1);
        }
        check.due("common of nothing", x.common(0), -11);
        x.hold(0, 1);
        check.due("common of like ones", x.common(0), 3);
        x.join(24);
        check.due("common", x.common(0), 2);
        x.leaves(6);
        check.due("common of none", x.common(0), 0);
        x.split(24);
        x.split(56);
        check.due("common of one", x.common(0), 1);
        x.leaves(5);
        check.due("another L", x.common(0), -5);
        x.hold(0, 0);
        check.due("a NUMBER", x.common(0), -12);
        x.row(0, 1);
        check.due("a ROW", x.common(0), -12);
    }

    private void row() {
        check.promise(33);
        MarkedCurves x = new MarkedCurves();
        for (int h : NO_HOLDERS) {
            check.due("row(" + h + ", 1)", x.row(h, 1), -1);
            check.due("row(" + h + ", -1)", x.row(h, -1), -1);
        }
        check.due("row(0, 21)", x.row(0, 21), -1);
        check.due("row(0, -1)", x.row(0, -1), -14);
        check.due("row(0, min)", x.row(0, Integer.MIN_VALUE), -14);
        check.due("row(0, max)", x.row(0, Integer.MAX_VALUE), -1);
        check.due("lose(0)", x.lose(0), 0);
        check.due("row(0, 20)", x.row(0, 20), 20);
        for (int i = 0; i < 20; i++) {
            x.set(0, i, i + 1);
        }
        check.due("row(0, 21)", x.row(0, 21), -1);
        check.due("the ROW stays", x.get(0, 19), 20);
        check.due("row(0, 20)", x.row(0, 20), 20);
        for (int i = 0; i < 20; i++) {
            check.due("all are 0", x.get(0, i), 0);
        }
        check.due("row(0, 0)", x.row(0, 0), 0);
        check.due("get(0, 0) of none", x.get(0, 0), NO);
    }

    private void set() {
        check.promise(34);
        MarkedCurves x = new MarkedCurves();
        for (int h : NO_HOLDERS) {
            check.due("set(" + h + ", 0, 0)", x.set(h, 0, 0), -1);
        }
        check.due("set of nothing", x.set(2, -1, 0), -11);
        x.hold(2, 0);
        check.due("set of a NUMBER", x.set(2, -1, 0), -12);
        x.hold(2, 1);
        check.due("set of a TREE", x.set(2, 0, 0), -12);
        x.row(2, 3);
        check.due("set(2, 3, 1)", x.set(2, 3, 1), -13);
        check.due("set(2, -1, 1)", x.set(2, -1, 1), -13);
        check.due("set(2, max, 1)", x.set(2, Integer.MAX_VALUE, 1), -13);
        check.due("set(2, 2, min)", x.set(2, 2, Integer.MIN_VALUE), 1);
        check.due("get(2, 2)", x.get(2, 2), Integer.MIN_VALUE);
        check.due("get(2, 1)", x.get(2, 1), 0);
        x.row(3, 20);
        check.due("set(3, 19, 1)", x.set(3, 19, 1), 1);
        check.due("set(3, 20, 1)", x.set(3, 20, 1), -13);
    }

    private void get() {
        check.promise(35);
        MarkedCurves x = new MarkedCurves();
        for (int h : NO_HOLDERS) {
            check.due("get(" + h + ", 0)", x.get(h, 0), NO);
        }
        check.due("get of nothing", x.get(0, 0), NO);
        x.hold(0, 0);
        check.due("get of a NUMBER", x.get(0, 0), NO);
        x.hold(0, 1);
        check.due("get of a TREE", x.get(0, 0), NO);
        x.row(0, 2);
        x.row(1, 2);
        x.set(0, 1, -7);
        check.due("get(0, 0)", x.get(0, 0), 0);
        check.due("get(0, 1)", x.get(0, 1), -7);
        check.due("get(1, 1)", x.get(1, 1), 0);
        check.due("get(0, 2)", x.get(0, 2), NO);
        check.due("get(0, -1)", x.get(0, -1), NO);
        check.due("get(0, min)", x.get(0, Integer.MIN_VALUE), NO);
    }

    private void judge() {
        check.promise(36);
        MarkedCurves x = TreesTest.with(6, 6, 24);
        for (int h : NO_HOLDERS) {
            check.due("judge(" + h + ")", x.judge(h), -1);
        }
        check.due("judge of nothing", x.judge(0), -11);
        x.hold(0, 1);
        check.due("judge of a TREE", x.judge(0), -12);
        x.hold(0, 0);
        check.due("judge of a NUMBER", x.judge(0), -12);
        x.row(0, 2);
        check.due("judge, otherwise at 0", x.judge(0), 0);
        x.set(0, 0, 6);
        check.due("judge, otherwise at 1", x.judge(0), 1);
        x.set(0, 1, 24);
        check.due("judge, all is so", x.judge(0), -2);
        x.split(30);
        check.due("judge, the ROW is shorter", x.judge(0), 2);
        x.join(30);
        x.join(24);
        check.due("judge, THE TREE is shorter", x.judge(0), 1);
        x.row(0, 0);
        check.due("judge of no numbers", x.judge(0), 0);
        x.join(6);
        check.due("judge of none and none", x.judge(0), -2);
        x.row(0, 20);
        check.due("judge of zeros", x.judge(0), 0);
        x.row(0, 1);
        x.set(0, 0, -1);
        check.due("judge of -1 where there is no SPLIT", x.judge(0), 0);
    }

    private void image() {
        check.promise(37);
        MarkedCurves x = TreesTest.with(5, 24);
        check.due("image()", x.image(), 0);
        x.mark(2);
        x.mark(3);
        x.genus(1);
        check.due("image()", x.image(), 2);
        x.take(0);
        x.leaves(6);
        x.genus(0);
        check.due("restore() of the latest", x.restore(), 2);
        check.holds("all that it keeps", DeedsTest.textOf(x).equals("1:2,3/5;34"));
    }

    private void restore() {
        check.promise(38);
        MarkedCurves x = TreesTest.with(5, 24);
        check.due("restore() of none", x.restore(), -5);
        x.mark(4);
        x.image();
        for (int i = 0; i < 3; i++) {
            x.mark(1);
            x.change(0, 9);
            x.genus(2);
            x.leaves(6);
            x.feed(0x31, 1);
            x.row(i, 2);
            check.due("restore()", x.restore(), 1);
            check.holds("as it was then", DeedsTest.textOf(x).equals("0:4/5;34"));
            check.due("no DEEDS", x.count(4), 0);
            check.due("THE TAPE is none of it", x.count(6), i + 1);
            check.due("HOLDERS are none of it", x.lose(i), 3);
        }
        x.read();
        check.due("why stays", x.why(0, 1), 3);
        x.restore();
        check.due("why stays", x.why(0, 1), 3);
        MarkedCurves nothing = new MarkedCurves();
        nothing.mark(1);
        nothing.undo();
        nothing.image();
        check.due("restore() of what is so", nothing.restore(), 0);
        check.due("again()", nothing.again(), -5);
    }

    private void count() {
        check.promise(39);
        MarkedCurves x = TreesTest.with(6, 6, 24, 30);
        x.genus(2);
        x.mark(1);
        x.mark(1);
        x.undo();
        x.feed(0, 4);
        int[] counts = {2, 1, 6, 3, 6, 1, 4};
        for (int what = 0; what < counts.length; what++) {
            check.due("count(" + what + ")", x.count(what), counts[what]);
        }
        for (int what : new int[] {-1, 7, Integer.MIN_VALUE, Integer.MAX_VALUE}) {
            check.due("count(" + what + ")", x.count(what), -1);
        }
    }
}
