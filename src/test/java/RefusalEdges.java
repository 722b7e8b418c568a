import java.util.ArrayList;
import java.util.List;

/** What the document says of all refusals: the first one counts, and nothing is changed by them. */
final class RefusalEdges extends Edges {
    private interface Call {
        long on(MarkedCurves x);
    }

    private record Refused(int promise, String name, Call call, long due) {
    }

    private final List<Refused> refused = new ArrayList<>();

    private RefusalEdges(Check check, Boundaries boundaries) {
        super(check, boundaries);
    }

    static void run(Check check, Boundaries boundaries) {
        RefusalEdges test = new RefusalEdges(check, boundaries);
        test.enlistMarks();
        test.enlistTrees();
        test.enlistHolders();
        test.refusedChangesNothing();
        test.askedChangesNothing();
        test.firstOfSeveral();
        test.whereItIsTold();
    }

    /** Something of everything: MARKS, SPLITS, DEEDS, bytes, a WHY, HOLDERS of all sorts, an IMAGE. */
    private static MarkedCurves prepared() {
        MarkedCurves x = desk("9:1");
        read(x, "1:0,2/4;12");
        x.hold(1, 1);
        x.image();
        read(x, "2:5,4,3,2,1,0,12,9/6;12;34");
        x.hold(0, 0);
        x.row(2, 3);
        x.set(2, 1, 24);
        x.genus(1);
        x.undo();
        feed(x, "0:1,2");
        return x;
    }

    /** All that can be seen of a desk; what is looked at last is used up by it. */
    private static String seen(MarkedCurves x) {
        StringBuilder seen = new StringBuilder(DeedsTest.textOf(x));
        for (int i = 0; i < 7; i++) {
            seen.append(' ').append(x.count(i)).append(' ').append(x.why(i / 2, i % 2));
        }
        for (int h = 0; h < 6; h++) {
            for (int kind = 0; kind < 4; kind++) {
                seen.append(' ').append(x.taken(h, kind));
            }
            seen.append(' ').append(x.get(h, 0)).append(' ').append(x.get(h, 1)).append(' ');
            seen.append(x.get(h, 2)).append(' ').append(x.common(h)).append(' ').append(x.lose(h));
        }
        while (x.again() >= 0) {
            seen.append(' ').append(DeedsTest.textOf(x));
        }
        while (x.undo() >= 0) {
            seen.append(' ').append(DeedsTest.textOf(x));
        }
        seen.append(' ').append(x.read()).append(' ').append(DeedsTest.textOf(x));
        seen.append(' ').append(x.restore()).append(' ').append(DeedsTest.textOf(x));
        return seen.toString();
    }

    private void enlist(int promise, String name, Call call, long due) {
        refused.add(new Refused(promise, name, call, due));
    }

    private void enlistMarks() {
        enlist(2, "genus(3)", x -> x.genus(3), -1);
        enlist(3, "mark(13)", x -> x.mark(13), -1);
        enlist(3, "mark(1) of eight", x -> x.mark(1), -3);
        enlist(4, "take(8)", x -> x.take(8), -1);
        enlist(5, "change(8, 1)", x -> x.change(8, 1), -1);
        enlist(5, "change(1, 13)", x -> x.change(1, 13), -1);
        enlist(6, "order(4)", x -> x.order(4), -1);
        enlist(6, "order(-1)", x -> x.order(-1), -1);
        enlist(7, "of(8)", x -> x.of(8), -1);
        enlist(8, "number(2)", x -> x.number(2), NO);
        enlist(11, "kappa(10, 0, 0, 0)", x -> x.kappa(10, 0, 0, 0), NO);
        enlist(11, "kappa(-1, 0, 0, 0)", x -> x.kappa(-1, 0, 0, 0), NO);
        enlist(11, "kappa(0, 0, 0, 2)", x -> x.kappa(0, 0, 0, 2), NO);
    }

    private void enlistTrees() {
        enlist(12, "leaves(7)", x -> x.leaves(7), -1);
        enlist(12, "leaves(2)", x -> x.leaves(2), -1);
        enlist(13, "split(62)", x -> x.split(62), -1);
        enlist(13, "split(6), there", x -> x.split(6), -5);
        enlist(13, "split(12), not together", x -> x.split(12), -5);
        enlist(14, "join(62)", x -> x.join(62), -1);
        enlist(14, "join(30)", x -> x.join(30), -5);
        enlist(15, "splitAt(-1)", x -> x.splitAt(-1), -1);
        enlist(15, "splitAt(2)", x -> x.splitAt(2), -2);
        enlist(16, "may(62)", x -> x.may(62), -1);
        enlist(17, "valence(62)", x -> x.valence(62), -1);
        enlist(17, "valence(30)", x -> x.valence(30), -5);
        enlist(18, "trees(7, 0)", x -> x.trees(7, 0), -1);
        enlist(19, "tree(6, 3, -1, 0)", x -> x.tree(6, 3, -1, 0), -1);
        enlist(19, "tree(6, 3, 105, 0)", x -> x.tree(6, 3, 105, 0), -2);
        enlist(20, "forget(6)", x -> x.forget(6), -1);
        enlist(21, "onTree()", x -> x.onTree(), NO);
        enlist(24, "feed(49, 0)", x -> x.feed(49, 0), -1);
        enlist(24, "feed(49, 5)", x -> x.feed(49, 5), -1);
        enlist(27, "why(3, 0)", x -> x.why(3, 0), -1);
        enlist(28, "spell(-2)", x -> x.spell(-2), -1);
        enlist(28, "spell(60)", x -> x.spell(60), -2);
    }

    private void enlistHolders() {
        enlist(29, "hold(6, 0)", x -> x.hold(6, 0), -1);
        enlist(29, "hold(2, 2)", x -> x.hold(2, 2), -1);
        enlist(29, "hold(3, -1)", x -> x.hold(3, -1), -1);
        enlist(30, "lose(6)", x -> x.lose(6), -1);
        enlist(31, "taken(0, 4)", x -> x.taken(0, 4), -1);
        enlist(31, "taken(3, 0)", x -> x.taken(3, 0), -11);
        enlist(31, "taken(2, 0)", x -> x.taken(2, 0), -12);
        enlist(32, "common(1)", x -> x.common(1), -5);
        enlist(32, "common(0)", x -> x.common(0), -12);
        enlist(33, "row(2, 21)", x -> x.row(2, 21), -1);
        enlist(33, "row(2, -1)", x -> x.row(2, -1), -14);
        enlist(33, "row(3, -1)", x -> x.row(3, -1), -14);
        enlist(34, "set(2, 3, 9)", x -> x.set(2, 3, 9), -13);
        enlist(34, "set(2, -1, 9)", x -> x.set(2, -1, 9), -13);
        enlist(34, "set(1, 1, 9)", x -> x.set(1, 1, 9), -12);
        enlist(34, "set(3, 0, 9)", x -> x.set(3, 0, 9), -11);
        enlist(35, "get(2, 3)", x -> x.get(2, 3), NO);
        enlist(36, "judge(1)", x -> x.judge(1), -12);
        enlist(39, "count(7)", x -> x.count(7), -1);
    }

    private void refusedChangesNothing() {
        String as = seen(prepared());
        for (Refused one : refused) {
            boundaries.terms(one.promise, "What is refused so changes nothing,");
            MarkedCurves x = prepared();
            check.due(one.name, one.call.on(x), one.due);
            check.holds("all is as it was behind " + one.name, seen(x).equals(as));
        }
        refusedOfStates();
    }

    /** Refusals that another state than the prepared one wants. */
    private void refusedOfStates() {
        boundaries.terms(15, "NOT (-2) as told;");
        refusedOf("0:/3", x -> x.splitAt(0), -2);
        refusedOf("0:/3", x -> x.spell(5), -2);
        boundaries.terms(20, "STATE (-5) as told;");
        refusedOf("0:/3", x -> x.forget(0), -5);
        refusedOf("0:/3", x -> x.restore(), -5);
        refusedOf("0:/3", x -> x.again(), -5);
        boundaries.terms(24, "What is refused so changes nothing,");
        Call full = x -> {
            feed(x, " ".repeat(56));
            return x.feed(0x30313233, 4);
        };
        refusedOf("0:/3", full, 60);
        MarkedCurves x = desk("0:/3");
        feed(x, "0:" + " ".repeat(55));
        check.due("feed of four behind 57", x.feed(0x31313131, 4), -3);
        check.due("count(6)", x.count(6), 57);
        check.due("read(), none came", x.read(), -1002);
        check.due("why(0, 1)", x.why(0, 1), 57);
        boundaries.terms(22, "What is refused so changes nothing,");
        MarkedCurves none = desk("0:/3");
        none.undo();
        check.due("undo() of none", none.undo(), -5);
        deedsAre(none, 0, 1);
        check.due("again()", none.again(), 0);
        isAs(none, "0:/3");
    }

    private void refusedOf(String text, Call call, long due) {
        MarkedCurves x = desk(text);
        check.due("refused of " + text, call.on(x), due);
        isAs(x, text);
        deedsAre(x, 1, 0);
    }

    private void askedChangesNothing() {
        boundaries.terms(39, "A call that leaves all as it was is no DEED,");
        String as = seen(prepared());
        MarkedCurves x = prepared();
        x.of(0);
        x.number(0);
        x.number(1);
        x.rule();
        x.met();
        x.kappa(1, 2, 3, 0);
        x.splitAt(0);
        x.may(30);
        x.valence(6);
        x.trees(6, 3);
        x.tree(5, 2, 3, 1);
        x.onTree();
        x.why(0, 0);
        x.spell(3);
        x.taken(0, 0);
        x.common(1);
        x.get(2, 1);
        x.judge(2);
        x.count(4);
        check.holds("all is as it was behind what is only asked", seen(x).equals(as));
    }

    private void first(int promise, String name, long got, long due) {
        check.promise(promise);
        check.sentence("Of several the first that the call's words name.");
        check.due(name, got, due);
    }

    private void firstOfSeveral() {
        boundaries.terms(39, "Of several the first that the call's words name.");
        MarkedCurves x = prepared();
        first(3, "mark(13) of eight: BAD ahead of FULL", x.mark(13), -1);
        first(3, "mark(-1) of eight: BAD ahead of FULL", x.mark(-1), -1);
        first(13, "split(7), not together: BAD ahead of STATE", x.split(7), -1);
        first(13, "split(70), there but for a bit: BAD ahead of STATE", x.split(70), -1);
        first(14, "join(0), not there: BAD ahead of STATE", x.join(0), -1);
        first(17, "valence(62), not there: BAD ahead of STATE", x.valence(62), -1);
        first(19, "tree(6, 3, 105, -1): BAD ahead of NOT", x.tree(6, 3, 105, -1), -1);
        first(19, "tree(7, 3, 105, 0): BAD ahead of NOT", x.tree(7, 3, 105, 0), -1);
        first(19, "tree(6, 10, 0, 0): BAD ahead of NOT", x.tree(6, 10, 0, 0), -1);
        first(20, "forget(3) of three: BAD ahead of STATE", desk("0:/3").forget(3), -1);
        feed(x, " ".repeat(55));
        first(24, "feed(0, 5), full: BAD ahead of FULL", x.feed(0, 5), -1);
        first(24, "feed(0, 0), full: BAD ahead of FULL", x.feed(0, 0), -1);
        first(27, "why(3, 0), none refused: BAD ahead of NOT", new MarkedCurves().why(3, 0), -1);
        first(27, "why(0, 2), none refused: BAD ahead of NOT", new MarkedCurves().why(0, 2), -1);
        first(31, "taken(6, 4)", x.taken(6, 4), -1);
        first(31, "taken(3, 4): BAD ahead of -11", x.taken(3, 4), -1);
        first(31, "taken(2, 4): BAD ahead of -12", x.taken(2, 4), -1);
        first(32, "common(0), of another sort: -12", x.common(0), -12);
        first(33, "row(6, -1): BAD ahead of -14", x.row(6, -1), -1);
        first(33, "row(-1, 21)", x.row(-1, 21), -1);
        first(34, "set(6, 99, 0): BAD ahead of -13", x.set(6, 99, 0), -1);
        first(34, "set(3, -1, 0): -11 ahead of -13", x.set(3, -1, 0), -11);
        first(34, "set(1, 99, 0): -12 ahead of -13", x.set(1, 99, 0), -12);
    }

    private void whereItIsTold() {
        boundaries.terms(26, "but where it is told.");
        MarkedCurves x = prepared();
        check.due("read() of 0:1,2 and an x behind", read(x, "x"), -1005);
        check.due("count(6): THE TAPE is empty", x.count(6), 0);
        check.due("why(2, 1) is another", x.why(2, 1), 5);
        isAs(x, "2:5,4,3,2,1,0,12,9/6;12;34");
        deedsAre(x, 2, 1);
        check.due("again(): what can be DONE AGAIN stays", x.again(), 0);
        isAs(x, "1:5,4,3,2,1,0,12,9/6;12;34");
    }
}
