/** The boundaries that the document names of HOLDERS, THE IMAGE and counts (promises 29 to 39). */
final class HoldersEdges extends Edges {
    private static final int[] NO_HOLDERS = {-1, 6, 7, -6};

    private HoldersEdges(Check check, Boundaries boundaries) {
        super(check, boundaries);
    }

    static void run(Check check, Boundaries boundaries) {
        HoldersEdges test = new HoldersEdges(check, boundaries);
        test.holdersAtFirst();
        test.hold();
        test.holdAsItWas();
        test.lose();
        test.takenOfWhatIsNot();
        test.takenForANumber();
        test.takenForTrees();
        test.common();
        test.rowThatIsNone();
        test.row();
        test.set();
        test.get();
        test.judgeOfWhatIsNot();
        test.judge();
        test.image();
        test.restore();
        test.restoreKeepsTheRest();
        test.count();
    }

    private interface OfHolder {
        long call(MarkedCurves x, int h);
    }

    /** A call with a HOLDER that is none is BAD, whatever the others hold. */
    private void noHolder(String name, OfHolder call, long due) {
        MarkedCurves x = withAll("1:1/4;12");
        for (int h : NO_HOLDERS) {
            check.due(name + " of HOLDER " + h, call.call(x, h), due);
        }
        for (int h : FAR) {
            check.due(name + " of HOLDER " + h, call.call(x, h), due);
        }
    }

    /** HOLDER 0 holds a NUMBER, 1 a TREE, 2 a ROW of two, 3 a ROW of none, 4 nothing, 5 a NUMBER. */
    private static MarkedCurves withAll(String text) {
        MarkedCurves x = desk(text);
        x.hold(0, 0);
        x.hold(1, 1);
        x.row(2, 2);
        x.row(3, 0);
        x.hold(5, 0);
        return x;
    }

    private void holdersAtFirst() {
        boundaries.terms(30, "HOLDERS 0 .. 5 hold nothing (at first)");
        MarkedCurves x = new MarkedCurves();
        for (int h = 0; h <= 5; h++) {
            check.due("taken(" + h + ", 0)", x.taken(h, 0), -11);
            check.due("lose(" + h + ")", x.lose(h), 0);
        }
        check.due("lose(6)", x.lose(6), -1);
        boundaries.terms(33, "a ROW of 0 .. 20 ints, 0 at first.");
        check.due("row(5, 20), the longest", x.row(5, 20), 20);
        for (int i = 0; i < 20; i++) {
            check.due("get(5, " + i + ")", x.get(5, i), 0);
        }
        check.due("row(0, 0), the shortest", x.row(0, 0), 0);
    }

    private void hold() {
        boundaries.promise(29, "how many MARKS, SPLITS. BAD.");
        MarkedCurves x = desk("0:1,2,3,4,5,6,7,8/6;12;34;1234");
        check.due("hold(0, 0), the first", x.hold(0, 0), 8);
        check.due("hold(5, 1), the last", x.hold(5, 1), 3);
        check.due("hold(0, 2)", x.hold(0, 2), -1);
        check.due("hold(0, -1)", x.hold(0, -1), -1);
        for (int what : FAR) {
            check.due("hold(0, " + what + ")", x.hold(0, what), -1);
        }
        check.due("it holds what it held", x.lose(0), 1);
        noHolder("hold", (y, h) -> y.hold(h, 0), -1);
        noHolder("hold", (y, h) -> y.hold(h, 1), -1);
        MarkedCurves none = new MarkedCurves();
        check.due("hold a NUMBER of no MARKS", none.hold(1, 0), 0);
        check.due("hold a TREE of no SPLITS", none.hold(2, 1), 0);
        check.due("lose(1)", none.lose(1), 1);
        check.due("lose(2)", none.lose(2), 2);
        boundaries.terms(29, "BAD (-1) a number is not as told, or there is no such MARK, LEAF, "
            + "SPLIT, HOLDER;");
        check.due("take(0) of none", none.take(0), -1);
        check.due("forget(4) of four", none.forget(4), -1);
        check.due("split(14) of four", none.split(14), -1);
        check.due("hold(6, 0)", none.hold(6, 0), -1);
    }

    private void holdAsItWas() {
        boundaries.terms(29, "a NUMBER (that of MARKS with GENUS as they were), a TREE as it was");
        MarkedCurves x = desk("2:2,2,2/6;12;34;1234");
        x.hold(0, 0);
        x.hold(1, 1);
        x.genus(0);
        x.take(0);
        x.leaves(3);
        check.due("taken(0, 0)", x.taken(0, 0), 7);
        check.due("taken(1, 1)", x.taken(1, 1), 3);
        check.due("taken(1, 2)", x.taken(1, 2), 6);
        check.due("common(1)", x.common(1), -5);
    }

    private void lose() {
        boundaries.promise(30, "what it held: 0 nothing, 1 a NUMBER, 2 a TREE, 3 a ROW. BAD.");
        MarkedCurves x = withAll("1:1/4;12");
        int[] held = {1, 2, 3, 3, 0, 1};
        for (int h = 0; h <= 5; h++) {
            check.due("lose(" + h + ")", x.lose(h), held[h]);
            check.due("lose(" + h + ") again", x.lose(h), 0);
            check.due("taken(" + h + ", 0)", x.taken(h, 0), -11);
        }
        noHolder("lose", (y, h) -> y.lose(h), -1);
    }

    private void takenOfWhatIsNot() {
        boundaries.promise(31, "taken for a kind (0 .. 3). BAD; -11; -12 (a ROW, or another "
            + "kind).");
        int[][] dues = {
            {0, -12, -12, -12}, {-12, 1, 4, -12}, {-12, -12, -12, -12}, {-12, -12, -12, -12},
            {-11, -11, -11, -11}, {0, -12, -12, -12}
        };
        MarkedCurves x = withAll("1:/4;12");
        for (int h = 0; h <= 5; h++) {
            for (int kind = 0; kind <= 3; kind++) {
                check.due("taken(" + h + ", " + kind + ")", x.taken(h, kind), dues[h][kind]);
            }
            check.due("taken(" + h + ", 4)", x.taken(h, 4), -1);
            check.due("taken(" + h + ", -1)", x.taken(h, -1), -1);
            for (int kind : FAR) {
                check.due("taken(" + h + ", " + kind + ")", x.taken(h, kind), -1);
            }
        }
        noHolder("taken", (y, h) -> y.taken(h, 0), -1);
        noHolder("taken", (y, h) -> y.taken(h, 9), -1);
        boundaries.terms(31, "-11 nothing is there where something is wanted, -12 it is of "
            + "another kind,");
        check.due("taken(4, 1)", x.taken(4, 1), -11);
        check.due("taken(2, 1)", x.taken(2, 1), -12);
    }

    private void takenForANumberIs(String text, int due) {
        MarkedCurves x = desk(text);
        x.hold(3, 0);
        check.due("taken(3, 0) of " + text, x.taken(3, 0), due);
    }

    private void takenForANumber() {
        boundaries.terms(31, "what is above the line, modulo 1000003 (0 .. 1000002);");
        takenForANumberIs("0:", 0);
        takenForANumberIs("2:12,12,12,12,12,12,12,12", 0);
        takenForANumberIs("0:0,0,0", 1);
        takenForANumberIs("2:2,2,2,1,1,1,1,1", 441);
        takenForANumberIs("0:0,0,0,1,1,1,1,1", 120);
        boundaries.terms(31, "A NUMBER modulo 1000003 is what is above the line in lowest terms.");
        takenForANumberIs("2:4", 1);
        takenForANumberIs("2:2,3", 29);
        takenForANumberIs("2:2,2,2", 7);
        takenForANumberIs("1:1,1,1", 1);
    }

    private void takenForTreeIs(String text, int tree, int full, int star) {
        MarkedCurves x = desk(text);
        x.hold(5, 1);
        check.due("taken(5, 0) of " + text, x.taken(5, 0), -12);
        check.due("taken(5, 1) of " + text, x.taken(5, 1), tree);
        check.due("taken(5, 2) of " + text, x.taken(5, 2), full);
        check.due("taken(5, 3) of " + text, x.taken(5, 3), star);
    }

    private void takenForTrees() {
        boundaries.terms(31, "2 a FULL TREE (each of its NODES has VALENCE 3): its L; 3 a STAR "
            + "(a TREE without SPLITS that is not FULL): its L.");
        takenForTreeIs("0:/3", 0, 3, -12);
        takenForTreeIs("0:/4", 0, -12, 4);
        takenForTreeIs("0:/4;12", 1, 4, -12);
        takenForTreeIs("0:/5", 0, -12, 5);
        takenForTreeIs("0:/5;34", 1, -12, -12);
        takenForTreeIs("0:/5;34;234", 2, 5, -12);
        takenForTreeIs("0:/5;12;34", 2, 5, -12);
        takenForTreeIs("0:/6", 0, -12, 6);
        takenForTreeIs("0:/6;2345", 1, -12, -12);
        takenForTreeIs("0:/6;45;2345", 2, -12, -12);
        takenForTreeIs("0:/6;12;34;1234", 3, 6, -12);
        takenForTreeIs("0:/6;45;345;2345", 3, 6, -12);
        boundaries.terms(31, "A FULL TREE and a STAR are TREES, too.");
        takenForTreeIs("0:/5;12;123", 2, 5, -12);
        takenForTreeIs("0:/6", 0, -12, 6);
    }

    private void commonIs(String held, String now, int due) {
        MarkedCurves x = desk(held);
        x.hold(0, 1);
        read(x, now);
        check.due("common(0) of " + held + " and " + now, x.common(0), due);
    }

    private void common() {
        boundaries.promise(32, "BAD; -11; -12 (no TREE); STATE: it is of another L.");
        noHolder("common", (y, h) -> y.common(h), -1);
        MarkedCurves x = withAll("1:1/4;12");
        int[] dues = {-12, 1, -12, -12, -11, -12};
        for (int h = 0; h <= 5; h++) {
            check.due("common(" + h + ")", x.common(h), dues[h]);
        }
        x.leaves(5);
        dues[1] = -5;
        for (int h = 0; h <= 5; h++) {
            check.due("common(" + h + "), of another L", x.common(h), dues[h]);
        }
        commonIs("0:/3", "0:/4", -5);
        commonIs("0:/5;12", "0:/6;12", -5);
        commonIs("0:/6;12", "0:/5;12", -5);
        boundaries.terms(32, "COMMON: how many SPLITS THE TREE has that a held one has, too.");
        commonIs("0:/3", "0:/3", 0);
        commonIs("0:/6", "0:/6;12", 0);
        commonIs("0:/6;12", "0:/6", 0);
        commonIs("0:/6;12;123", "0:/6;13;123", 1);
        commonIs("0:/6;45;345;2345", "0:/6;2345;345;45", 3);
        commonIs("0:/6;23;45;2345", "0:/6;12;34;1234", 0);
    }

    private void rowThatIsNone() {
        boundaries.promise(33, "BAD: h, n above 20; -14: n below 0.");
        noHolder("row", (y, h) -> y.row(h, 1), -1);
        noHolder("row of -1", (y, h) -> y.row(h, -1), -1);
        MarkedCurves x = withAll("1:1/4;12");
        for (int h = 0; h <= 5; h++) {
            check.due("row(" + h + ", 21)", x.row(h, 21), -1);
            check.due("row(" + h + ", -1)", x.row(h, -1), -14);
            for (int n : FAR) {
                check.due("row(" + h + ", " + n + ")", x.row(h, n), n > 20 ? -1 : -14);
            }
        }
        int[] held = {1, 2, 3, 3, 0, 1};
        for (int h = 0; h <= 5; h++) {
            check.due("it holds what it held", x.lose(h), held[h]);
        }
        boundaries.terms(33, "-13 a place that is not there, -14 a size below 0.");
        check.due("row(0, -1)", x.row(0, -1), -14);
        check.due("row(0, 1)", x.row(0, 1), 1);
        check.due("set(0, 1, 0)", x.set(0, 1, 0), -13);
    }

    private void row() {
        boundaries.promise(33, "A HOLDER holds a ROW of n ints, all 0: n.");
        MarkedCurves x = new MarkedCurves();
        for (int n = 0; n <= 20; n++) {
            check.due("row(0, " + n + ")", x.row(0, n), n);
            check.due("set of the last", x.set(0, n - 1, 7), n == 0 ? -13 : 1);
            check.due("set behind the last", x.set(0, n, 7), -13);
        }
        check.due("row(0, 20), of one that had numbers", x.row(0, 20), 20);
        for (int i = 0; i < 20; i++) {
            check.due("get(0, " + i + ")", x.get(0, i), 0);
        }
        x.set(0, 19, 5);
        x.row(0, 2);
        x.hold(0, 1);
        x.row(0, 20);
        check.due("get(0, 19)", x.get(0, 19), 0);
    }

    private void set() {
        boundaries.promise(34, "BAD: h; -11; -12 (no ROW); -13.");
        noHolder("set", (y, h) -> y.set(h, 0, 0), -1);
        MarkedCurves x = withAll("1:1/4;12");
        int[] dues = {-12, -12, 1, -13, -11, -12};
        for (int h = 0; h <= 5; h++) {
            check.due("set(" + h + ", 0, 1)", x.set(h, 0, 1), dues[h]);
            int none = dues[h] == 1 ? -13 : dues[h];
            check.due("set(" + h + ", -1, 1)", x.set(h, -1, 1), none);
            check.due("set(" + h + ", 20, 1)", x.set(h, 20, 1), none);
        }
        check.due("set(2, 1, 1), the last", x.set(2, 1, 1), 1);
        check.due("set(2, 2, 1)", x.set(2, 2, 1), -13);
        for (int i : FAR) {
            check.due("set(2, " + i + ", 1)", x.set(2, i, 1), -13);
        }
        for (int v : FAR) {
            check.due("set(2, 0, " + v + ")", x.set(2, 0, v), 1);
            check.due("get(2, 0)", x.get(2, 0), v);
            check.due("get(2, 1)", x.get(2, 1), 1);
        }
    }

    private void get() {
        boundaries.promise(35, "NO: BAD: h; -11; -12 (no ROW); -13.");
        noHolder("get", (y, h) -> y.get(h, 0), NO);
        MarkedCurves x = withAll("1:1/4;12");
        for (int h = 0; h <= 5; h++) {
            check.due("get(" + h + ", 0)", x.get(h, 0), h == 2 ? 0 : NO);
            check.due("get(" + h + ", -1)", x.get(h, -1), NO);
            check.due("get(" + h + ", 2)", x.get(h, 2), NO);
        }
        check.due("get(2, 1), the last", x.get(2, 1), 0);
        for (int i : FAR) {
            check.due("get(2, " + i + ")", x.get(2, i), NO);
        }
        x.set(2, 0, -1);
        check.due("get(2, 0) is no BAD", x.get(2, 0), -1);
        x.row(2, 1);
        check.due("get(2, 1) of a shorter one", x.get(2, 1), NO);
    }

    private void judgeOfWhatIsNot() {
        boundaries.promise(36, "BAD: h; -11; -12 (no ROW); NOT.");
        noHolder("judge", (y, h) -> y.judge(h), -1);
        MarkedCurves x = withAll("1:1/4;12");
        int[] dues = {-12, -12, 0, 0, -11, -12};
        for (int h = 0; h <= 5; h++) {
            check.due("judge(" + h + ")", x.judge(h), dues[h]);
        }
        x.leaves(4);
        check.due("judge(3) of none and none", x.judge(3), -2);
    }

    private void judgeIs(String text, int due, int... numbers) {
        MarkedCurves x = desk(text);
        x.row(1, numbers.length);
        for (int i = 0; i < numbers.length; i++) {
            x.set(1, i, numbers[i]);
        }
        check.due("judge(1) of " + java.util.Arrays.toString(numbers) + ", " + text, x.judge(1), due);
    }

    private void judge() {
        boundaries.terms(36, "the first place (from 0) that is otherwise (also where either has "
            + "no number any more); NOT: all is so.");
        judgeIs("0:/6;12;34;1234", -2, 6, 24, 30);
        judgeIs("0:/6;12;34;1234", 0, 7, 24, 30);
        judgeIs("0:/6;12;34;1234", 1, 6, 0, 30);
        judgeIs("0:/6;12;34;1234", 2, 6, 24, 31);
        judgeIs("0:/6;12;34;1234", 2, 6, 24);
        judgeIs("0:/6;12;34;1234", 0);
        judgeIs("0:/6;12;34;1234", 3, 6, 24, 30, 0);
        judgeIs("0:/6;12;34;1234", 1, 6, 30, 24);
        judgeIs("0:/6;12", 1, 6, -1);
        judgeIs("0:/6;12", 1, 6, 0, 0, 0, 0, 0, 0, 0, 0, 0, 0, 0, 0, 0, 0, 0, 0, 0, 0, 0);
        judgeIs("0:/6", 0, 0);
        judgeIs("0:/6", 0, -1);
        judgeIs("0:/6", -2);
        judgeIs("0:/3", -2);
    }

    private void image() {
        boundaries.promise(37, "THE IMAGE is kept: how many MARKS there are.");
        check.due("image() of no MARKS", new MarkedCurves().image(), 0);
        MarkedCurves x = desk("2:1,2,3,4,5,6,7,8/6;12;34;1234");
        check.due("image() of eight", x.image(), 8);
        x.take(0);
        check.due("image() again", x.image(), 7);
        x.take(0);
        check.due("restore() of the latest", x.restore(), 7);
        isAs(x, "2:2,3,4,5,6,7,8/6;12;34;1234");
    }

    private void restore() {
        boundaries.promise(38, "STATE: none was kept.");
        MarkedCurves x = desk("1:5/5;12");
        x.genus(2);
        x.undo();
        check.due("restore() of none", x.restore(), -5);
        isAs(x, "1:5/5;12");
        deedsAre(x, 1, 1);
        boundaries.promise(38, "All that THE IMAGE keeps is as it was then (THE IMAGE stays)");
        MarkedCurves empty = new MarkedCurves();
        empty.image();
        for (int time = 0; time < 3; time++) {
            read(empty, "2:1,2,3,4,5,6,7,8/6;12;34;1234");
            check.due("restore() of a new object", empty.restore(), 0);
            isAs(empty, "0:/4");
        }
        MarkedCurves full = desk("2:1,2,3,4,5,6,7,8/6;12;34;1234");
        full.image();
        read(full, "0:/3");
        check.due("restore() of eight", full.restore(), 8);
        isAs(full, "2:1,2,3,4,5,6,7,8/6;12;34;1234");
    }

    private void restoreKeepsTheRest() {
        boundaries.terms(38, "(not DEEDS, THE TAPE, WHY, HOLDERS)");
        MarkedCurves x = desk("1:5/5;12");
        x.image();
        x.feed(0, 3);
        x.hold(0, 1);
        x.row(1, 2);
        x.set(1, 1, 6);
        x.restore();
        check.due("count(6)", x.count(6), 3);
        check.due("why(0, 0)", x.why(0, 0), -2);
        check.due("taken(0, 1)", x.taken(0, 1), 1);
        check.due("get(1, 1)", x.get(1, 1), 6);
        x.read();
        x.lose(0);
        x.restore();
        check.due("count(6)", x.count(6), 0);
        check.due("why(0, 1)", x.why(0, 1), 3);
        check.due("lose(0)", x.lose(0), 0);
        deedsAre(x, 0, 0);
    }

    private void count() {
        boundaries.promise(39, "6 bytes of THE TAPE. BAD.");
        MarkedCurves x = new MarkedCurves();
        int[] first = {0, 0, 4, 0, 0, 0, 0};
        for (int what = 0; what <= 6; what++) {
            check.due("count(" + what + ")", x.count(what), first[what]);
        }
        read(x, "2:1,2,3,4,5,6,7,8/6;12;34;1234");
        feed(x, " ".repeat(60));
        for (int deed = 0; deed < 8; deed++) {
            x.change(0, deed + 2);
        }
        int[] full = {2, 8, 6, 3, 8, 0, 60};
        for (int what = 0; what <= 6; what++) {
            check.due("count(" + what + "), the most", x.count(what), full[what]);
        }
        for (int deed = 0; deed < 8; deed++) {
            x.undo();
        }
        check.due("count(5), the most", x.count(5), 8);
        check.due("count(7)", x.count(7), -1);
        check.due("count(-1)", x.count(-1), -1);
        for (int what : FAR) {
            check.due("count(" + what + ")", x.count(what), -1);
        }
    }
}
