/** The boundaries that the document names of DEEDS (promises 22 and 23). */
final class DeedsEdges extends Edges {
    private DeedsEdges(Check check, Boundaries boundaries) {
        super(check, boundaries);
    }

    static void run(Check check, Boundaries boundaries) {
        DeedsEdges test = new DeedsEdges(check, boundaries);
        test.undoOfNone();
        test.undo();
        test.eightAtMost();
        test.eightAtMostRoundAndRound();
        test.againOfNone();
        test.again();
        test.tillAnotherDeed();
        test.noDeed();
        test.deedsOfEachCall();
        test.restore();
    }

    private void undoOfNone() {
        boundaries.promise(22, "STATE: there is none.");
        MarkedCurves x = new MarkedCurves();
        check.due("undo() of a new object", x.undo(), -5);
        x.mark(1);
        x.undo();
        check.due("undo() of none any more", x.undo(), -5);
        isAs(x, "0:/4");
        deedsAre(x, 0, 1);
    }

    private void undo() {
        boundaries.promise(22, "The latest DEED is UNDONE: how many still can be.");
        MarkedCurves x = new MarkedCurves();
        x.mark(1);
        check.due("undo() of the only one", x.undo(), 0);
        x.mark(2);
        x.genus(2);
        x.leaves(6);
        check.due("undo() of the latest", x.undo(), 2);
        isAs(x, "2:2/4");
        check.due("undo() of the one ahead", x.undo(), 1);
        isAs(x, "0:2/4");
        boundaries.terms(22, "can be UNDONE, the latest first,");
        check.due("undo() of the first", x.undo(), 0);
        isAs(x, "0:/4");
    }

    private void eightAtMost() {
        boundaries.terms(22, "8 at most (older ones no more)");
        MarkedCurves x = new MarkedCurves();
        for (int d = 1; d <= 8; d++) {
            x.mark(d);
        }
        deedsAre(x, 8, 0);
        x.genus(1);
        deedsAre(x, 8, 0);
        for (int left = 7; left >= 0; left--) {
            check.due("undo()", x.undo(), left);
        }
        check.due("undo() of the ninth", x.undo(), -5);
        isAs(x, "0:1/4");
        deedsAre(x, 0, 8);
        for (int left = 7; left >= 0; left--) {
            check.due("again()", x.again(), left);
        }
        check.due("again() of a ninth", x.again(), -5);
        isAs(x, "1:1,2,3,4,5,6,7,8/4");
    }

    /** Where the older ones stood, others stand by and by. */
    private void eightAtMostRoundAndRound() {
        MarkedCurves x = desk("0:0/4");
        for (int deed = 1; deed <= 40; deed++) {
            x.change(0, deed % 13);
            check.due("count(4)", x.count(4), Math.min(8, deed + 1));
        }
        for (int left = 7; left >= 0; left--) {
            check.due("undo()", x.undo(), left);
            check.due("of(0)", x.of(0), (32 + left) % 13);
        }
        check.due("undo()", x.undo(), -5);
        for (int left = 7; left >= 4; left--) {
            check.due("again()", x.again(), left);
        }
        check.due("of(0)", x.of(0), 36 % 13);
        x.change(0, 12);
        deedsAre(x, 5, 0);
        check.due("undo()", x.undo(), 4);
        check.due("of(0)", x.of(0), 36 % 13);
    }

    private void againOfNone() {
        boundaries.promise(23, "STATE: there is none.");
        MarkedCurves x = new MarkedCurves();
        check.due("again() of a new object", x.again(), -5);
        x.mark(1);
        check.due("again(), none was UNDONE", x.again(), -5);
        x.undo();
        x.again();
        check.due("again() of none any more", x.again(), -5);
        isAs(x, "0:1/4");
        deedsAre(x, 1, 0);
    }

    private void again() {
        boundaries.promise(23, "What was UNDONE latest is DONE AGAIN: how many still can be.");
        MarkedCurves x = new MarkedCurves();
        x.mark(1);
        x.genus(2);
        x.leaves(6);
        x.undo();
        x.undo();
        x.undo();
        check.due("again()", x.again(), 2);
        isAs(x, "0:1/4");
        check.due("again()", x.again(), 1);
        isAs(x, "2:1/4");
        boundaries.terms(23, "DONE AGAIN, the latest UNDONE first,");
        x.undo();
        check.due("again() of what was UNDONE a second time", x.again(), 1);
        isAs(x, "2:1/4");
        check.due("again() of the last", x.again(), 0);
        isAs(x, "2:1/6");
    }

    private void tillAnotherDeed() {
        boundaries.terms(23, "till another DEED is done.");
        for (int which = 0; which < DeedsTest.DEEDS; which++) {
            MarkedCurves x = prepared();
            x.mark(9);
            x.undo();
            x.undo();
            x.again();
            deedsAre(x, 1, 1);
            DeedsTest.deed(x, which);
            deedsAre(x, 2, 0);
            check.due("again() behind DEED " + which, x.again(), -5);
        }
    }

    private static MarkedCurves prepared() {
        return desk("1:3,1,2/5;12");
    }

    private void deedsOfEachCall() {
        boundaries.terms(22, "by which something of GENUS, MARKS, L, THE TREE is otherwise) can "
            + "be UNDONE");
        for (int which = 0; which < DeedsTest.DEEDS; which++) {
            MarkedCurves x = prepared();
            DeedsTest.deed(x, which);
            deedsAre(x, 2, 0);
            check.due("undo() of DEED " + which, x.undo(), 1);
            isAs(x, "1:3,1,2/5;12");
        }
    }

    private void noDeed() {
        boundaries.terms(23, "A call that leaves all as it was is no DEED, and ends nothing that "
            + "can be DONE AGAIN.");
        String[] texts = {"1:3,1,2/5", "1:7,7/6;12", "0:/4"};
        for (String text : texts) {
            MarkedCurves x = desk("2:9/3");
            read(x, text);
            x.genus(2);
            x.undo();
            x.genus(x.count(0));
            x.change(0, x.of(0));
            x.order(text.equals("1:3,1,2/5") ? 9 : 0);
            if (x.count(3) == 0) {
                x.leaves(x.count(2));
            }
            read(x, text);
            read(x, text.substring(0, text.indexOf('/')));
            isAs(x, text);
            deedsAre(x, 2, 1);
            check.due("again() of " + text, x.again(), 0);
        }
        // leaves(l) of the same L is a DEED where there are SPLITS.
        MarkedCurves x = desk("1:7,7/6;12");
        x.leaves(6);
        deedsAre(x, 2, 0);
    }

    private void restore() {
        boundaries.terms(22, "restore() leaves neither.");
        MarkedCurves x = prepared();
        x.image();
        x.mark(1);
        x.mark(2);
        x.undo();
        deedsAre(x, 2, 1);
        x.restore();
        deedsAre(x, 0, 0);
        check.due("undo()", x.undo(), -5);
        check.due("again()", x.again(), -5);
        // Where restore() changes nothing, too.
        x.mark(1);
        x.undo();
        deedsAre(x, 0, 1);
        x.restore();
        deedsAre(x, 0, 0);
        // The first DEED behind it leads back to what was kept.
        x.genus(0);
        check.due("undo()", x.undo(), 0);
        isAs(x, "1:3,1,2/5;12");
    }
}
