/** Promises 22 and 23: DEEDS UNDONE and DONE AGAIN. */
final class DeedsTest {
    static final int DEEDS = 10;

    private final Check check;

    private DeedsTest(Check check) {
        this.check = check;
    }

    static void run(Check check) {
        DeedsTest test = new DeedsTest(check);
        test.undo();
        test.undoOfEach();
        test.undoOfEightAtMost();
        test.undoOfNoDeed();
        test.again();
        test.againIsEnded();
        test.restoreLeavesNeither();
    }

    private void undo() {
        check.promise(22);
        MarkedCurves x = new MarkedCurves();
        check.due("undo() of none", x.undo(), -5);
        x.genus(1);
        x.mark(4);
        check.due("undo()", x.undo(), 1);
        check.due("count(1)", x.count(1), 0);
        check.due("count(0)", x.count(0), 1);
        check.due("undo()", x.undo(), 0);
        check.due("count(0)", x.count(0), 0);
        check.due("undo()", x.undo(), -5);
        check.due("count(5)", x.count(5), 2);
    }

    /** The text of GENUS, MARKS, L and THE TREE. */
    static String textOf(MarkedCurves x) {
        StringBuilder text = new StringBuilder();
        int bytes = x.spell(-1);
        for (int i = 0; i < bytes; i++) {
            text.append((char) x.spell(i));
        }
        return text.toString();
    }

    private void undoOfEach() {
        for (int which = 0; which < DEEDS; which++) {
            MarkedCurves x = TreesTest.with(5, 6);
            x.mark(3);
            x.mark(1);
            String before = textOf(x);
            int deeds = x.count(4);
            deed(x, which);
            String after = textOf(x);
            check.promise(22);
            check.holds("a DEED was done: " + which, !before.equals(after));
            check.due("count(4) by DEED " + which, x.count(4), deeds + 1);
            check.due("undo() of DEED " + which, x.undo(), deeds);
            check.holds(before + " is as it was", before.equals(textOf(x)));
            check.promise(23);
            check.due("again() of DEED " + which, x.again(), 0);
            check.holds(after + " is done again", after.equals(textOf(x)));
        }
    }

    /** A DEED of each of the calls that can do one, on five LEAVES with the SPLIT 6 and MARKS 3 1. */
    static void deed(MarkedCurves x, int which) {
        switch (which) {
            case 0: x.genus(2); break;
            case 1: x.mark(3); break;
            case 2: x.take(0); break;
            case 3: x.change(1, 9); break;
            case 4: x.order(0); break;
            case 5: x.leaves(5); break;
            case 6: x.split(24); break;
            case 7: x.join(6); break;
            case 8: x.forget(4); break;
            default:
                TextsTest.feed(x, "2:1,1/4;23");
                x.read();
                break;
        }
    }

    /** Each DEED is unlike all others, so that none can stand for another. */
    private void undoOfEightAtMost() {
        check.promise(22);
        MarkedCurves x = new MarkedCurves();
        x.mark(0);
        for (int d = 1; d <= 12; d++) {
            x.change(0, d);
            check.due("count(4)", x.count(4), Math.min(8, d + 1));
        }
        for (int left = 7; left >= 0; left--) {
            check.due("undo()", x.undo(), left);
            check.due("of(0)", x.of(0), 4 + left);
            check.due("count(4)", x.count(4), left);
            check.due("count(5)", x.count(5), 8 - left);
        }
        check.due("undo()", x.undo(), -5);
        check.due("of(0)", x.of(0), 4);
        check.promise(23);
        for (int left = 7; left >= 0; left--) {
            check.due("again()", x.again(), left);
            check.due("of(0)", x.of(0), 12 - left);
        }
        check.due("again()", x.again(), -5);
        check.due("of(0)", x.of(0), 12);
        x.undo();
        x.change(0, 0);
        check.due("count(4)", x.count(4), 8);
        x.undo();
        check.due("of(0)", x.of(0), 11);
    }

    private void undoOfNoDeed() {
        check.promise(22);
        MarkedCurves x = new MarkedCurves();
        x.mark(2);
        x.mark(2);
        x.undo();
        x.genus(0);
        x.change(0, 2);
        x.order(0);
        x.order(2);
        x.order(3);
        x.leaves(4);
        TextsTest.feed(x, "0:2/4");
        check.due("read() of what is there", x.read(), 1);
        x.mark(13);
        x.take(7);
        x.split(7);
        x.join(6);
        x.forget(4);
        TextsTest.feed(x, "0:2/9");
        x.read();
        x.hold(0, 1);
        x.row(1, 4);
        x.set(1, 0, 5);
        x.lose(0);
        x.image();
        x.feed(1, 1);
        x.wipe();
        check.due("count(4)", x.count(4), 1);
        check.due("count(5)", x.count(5), 1);
        check.due("undo()", x.undo(), 0);
    }

    private void again() {
        check.promise(23);
        MarkedCurves x = new MarkedCurves();
        check.due("again() of none", x.again(), -5);
        x.mark(5);
        x.mark(6);
        x.undo();
        x.undo();
        check.due("again()", x.again(), 1);
        check.due("of(0)", x.of(0), 5);
        check.due("count(1)", x.count(1), 1);
        check.due("again()", x.again(), 0);
        check.due("of(1)", x.of(1), 6);
        check.due("again()", x.again(), -5);
        check.due("count(4)", x.count(4), 2);
    }

    private void againIsEnded() {
        check.promise(23);
        MarkedCurves x = new MarkedCurves();
        x.mark(5);
        x.mark(6);
        x.undo();
        x.genus(1);
        check.due("again()", x.again(), -5);
        check.due("count(5)", x.count(5), 0);
        check.due("undo()", x.undo(), 1);
        check.due("count(0)", x.count(0), 0);
        check.due("of(0)", x.of(0), 5);
    }

    private void restoreLeavesNeither() {
        check.promise(22);
        MarkedCurves x = new MarkedCurves();
        x.mark(5);
        x.mark(6);
        x.undo();
        check.due("restore() of none", x.restore(), -5);
        check.due("count(4)", x.count(4), 1);
        check.due("count(5)", x.count(5), 1);
        x.image();
        check.due("restore()", x.restore(), 1);
        check.due("undo()", x.undo(), -5);
        check.due("again()", x.again(), -5);
        x.mark(7);
        check.due("undo()", x.undo(), 0);
        check.due("count(1)", x.count(1), 1);
    }
}
