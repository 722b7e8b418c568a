/** What the tests of boundaries have in common. */
abstract class Edges {
    static final long NO = MarkedCurves.NO;
    /** Numbers far outside; the last ones stand for small ones where only five or eight bits count. */
    static final int[] FAR = {
        Integer.MIN_VALUE, Integer.MIN_VALUE + 1, -1000, Integer.MAX_VALUE - 1, Integer.MAX_VALUE,
        1 << 30, 1 << 16, 256, 257, -256, -32, -31
    };

    final Boundaries boundaries;
    final Check check;

    Edges(Check check, Boundaries boundaries) {
        this.check = check;
        this.boundaries = boundaries;
    }

    /** A desk that has become what a TEXT tells. */
    static MarkedCurves desk(String text) {
        MarkedCurves x = new MarkedCurves();
        read(x, text);
        return x;
    }

    static int read(MarkedCurves x, String text) {
        feed(x, text);
        return x.read();
    }

    static void feed(MarkedCurves x, String text) {
        TextsTest.feed(x, text);
    }

    /** GENUS, MARKS, L and THE TREE are as a TEXT tells. */
    void isAs(MarkedCurves x, String text) {
        String is = DeedsTest.textOf(x);
        check.holds(is + " is " + text, is.equals(text));
    }

    /** How many DEEDS can be UNDONE and DONE AGAIN. */
    void deedsAre(MarkedCurves x, int undoable, int repeatable) {
        check.due("count(4)", x.count(4), undoable);
        check.due("count(5)", x.count(5), repeatable);
    }
}
