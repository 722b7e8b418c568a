import java.util.ArrayList;
import java.util.List;

/** Every call with each mixture of ordinary numbers, edges and far ones, set against the model. */
final class ExtremesTest {
    private static final int MIN = Integer.MIN_VALUE, MAX = Integer.MAX_VALUE;
    private static final int[] TWO = {
        MIN, MIN + 1, -31, -6, -2, -1, 0, 1, 2, 3, 4, 5, 6, 7, 8, 9, 10, 12, 13, 14, 19, 20, 21, 30,
        62, 64, 256, MAX - 1, MAX
    };
    private static final int[] THREE = {MIN, -1, 0, 1, 2, 3, 4, 5, 6, 19, 20, 21, 24, 256, MAX};
    private static final int[] FOUR = {MIN, -2, -1, 0, 1, 2, 3, 4, 6, 9, 10, 105, MAX};
    private static final String[] TEXTS = {
        "0:/4", "2:2,2,2/6;12;34;1234", "1:1,1,0,2,1,1,1,1/3", "0:0,0,0,0,1,2/6;2345", "2:4,0,0,7/5;12"
    };
    /** With those that lead to its state, these are fewer than a desk is promised for. */
    private static final int CALLS = 300;

    private interface Of<T> {
        long call(T on, int[] a);
    }

    private record Call(int promise, String name, Of<MarkedCurves> desk, Of<Model> model) {
    }

    private final Check check;
    private final List<List<Call>> byArguments = new ArrayList<>();
    private String text;
    private MarkedCurves desk;
    private Model model;
    private int calls;

    private ExtremesTest(Check check) {
        this.check = check;
        for (int n = 0; n <= 4; n++) {
            byArguments.add(new ArrayList<>());
        }
    }

    static void run(Check check) {
        ExtremesTest test = new ExtremesTest(check);
        test.enlistOne();
        test.enlistTreesAndTexts();
        test.enlistTwo();
        test.enlistMore();
        for (String text : TEXTS) {
            test.text = text;
            test.sweepOne();
            test.sweep(2, TWO);
            test.sweep(3, THREE);
            test.sweep(4, FOUR);
        }
    }

    private void enlist(int arguments, int promise, String name, Of<MarkedCurves> of, Of<Model> due) {
        byArguments.get(arguments).add(new Call(promise, name, of, due));
    }

    private void enlistOne() {
        enlist(1, 2, "genus", (x, a) -> x.genus(a[0]), (m, a) -> m.genus(a[0]));
        enlist(1, 3, "mark", (x, a) -> x.mark(a[0]), (m, a) -> m.mark(a[0]));
        enlist(1, 4, "take", (x, a) -> x.take(a[0]), (m, a) -> m.take(a[0]));
        enlist(1, 6, "order", (x, a) -> x.order(a[0]), (m, a) -> m.order(a[0]));
        enlist(1, 7, "of", (x, a) -> x.of(a[0]), (m, a) -> m.of(a[0]));
        enlist(1, 8, "number", (x, a) -> x.number(a[0]), (m, a) -> m.number(a[0]));
        enlist(1, 28, "spell", (x, a) -> x.spell(a[0]), (m, a) -> m.spell(a[0]));
        enlist(1, 30, "lose", (x, a) -> x.lose(a[0]), (m, a) -> m.lose(a[0]));
        enlist(1, 32, "common", (x, a) -> x.common(a[0]), (m, a) -> m.common(a[0]));
        enlist(1, 36, "judge", (x, a) -> x.judge(a[0]), (m, a) -> m.judge(a[0]));
        enlist(1, 39, "count", (x, a) -> x.count(a[0]), (m, a) -> m.count(a[0]));
    }

    private void enlistTreesAndTexts() {
        enlist(1, 12, "leaves", (x, a) -> x.leaves(a[0]), (m, a) -> m.leaves(a[0]));
        enlist(1, 13, "split", (x, a) -> x.split(a[0]), (m, a) -> m.split(a[0]));
        enlist(1, 14, "join", (x, a) -> x.join(a[0]), (m, a) -> m.join(a[0]));
        enlist(1, 15, "splitAt", (x, a) -> x.splitAt(a[0]), (m, a) -> m.splitAt(a[0]));
        enlist(1, 16, "may", (x, a) -> x.may(a[0]), (m, a) -> m.may(a[0]));
        enlist(1, 17, "valence", (x, a) -> x.valence(a[0]), (m, a) -> m.valence(a[0]));
        enlist(1, 20, "forget", (x, a) -> x.forget(a[0]), (m, a) -> m.forget(a[0]));
    }

    private void enlistTwo() {
        enlist(2, 5, "change", (x, a) -> x.change(a[0], a[1]), (m, a) -> m.change(a[0], a[1]));
        enlist(2, 18, "trees", (x, a) -> x.trees(a[0], a[1]), (m, a) -> m.trees(a[0], a[1]));
        enlist(2, 24, "feed", (x, a) -> x.feed(a[0], a[1]), (m, a) -> m.feed(a[0], a[1]));
        enlist(2, 27, "why", (x, a) -> x.why(a[0], a[1]), (m, a) -> m.why(a[0], a[1]));
        enlist(2, 29, "hold", (x, a) -> x.hold(a[0], a[1]), (m, a) -> m.hold(a[0], a[1]));
        enlist(2, 31, "taken", (x, a) -> x.taken(a[0], a[1]), (m, a) -> m.taken(a[0], a[1]));
        enlist(2, 33, "row", (x, a) -> x.row(a[0], a[1]), (m, a) -> m.row(a[0], a[1]));
        enlist(2, 35, "get", (x, a) -> x.get(a[0], a[1]), (m, a) -> m.get(a[0], a[1]));
    }

    private void enlistMore() {
        enlist(3, 34, "set", (x, a) -> x.set(a[0], a[1], a[2]), (m, a) -> m.set(a[0], a[1], a[2]));
        enlist(4, 11, "kappa", (x, a) -> x.kappa(a[0], a[1], a[2], a[3]),
            (m, a) -> m.kappa(a[0], a[1], a[2], a[3]));
        enlist(4, 19, "tree", (x, a) -> x.tree(a[0], a[1], a[2], a[3]),
            (m, a) -> m.tree(a[0], a[1], a[2], a[3]));
    }

    private void renew() {
        desk = Edges.desk("9:1");
        model = new Model();
        readBoth("9:1");
        readBoth(text);
        desk.hold(0, 0);
        model.hold(0, 0);
        desk.hold(1, 1);
        model.hold(1, 1);
        desk.row(2, 3);
        model.row(2, 3);
        desk.row(3, 20);
        model.row(3, 20);
        calls = 0;
    }

    private void readBoth(String words) {
        Edges.read(desk, words);
        for (int i = 0; i < words.length(); i++) {
            model.feed(words.charAt(i), 1);
        }
        model.read();
    }

    private void call(Call one, int... a) {
        if (calls == CALLS) {
            renew();
        }
        calls++;
        check.promise(one.promise);
        long got = one.desk.call(desk, a);
        long due = one.model.call(model, a);
        if (got == due) {
            check.holds(one.name, true);
            return;
        }
        check.due(one.name + java.util.Arrays.toString(a) + " at " + model.text(), got, due);
    }

    private void sameText(Call one) {
        check.promise(one.promise);
        check.holds("behind " + one.name, DeedsTest.textOf(desk).equals(model.text()));
    }

    private void sweepOne() {
        for (Call one : byArguments.get(1)) {
            renew();
            for (int a = -70; a <= 140; a++) {
                call(one, a);
            }
            for (int a : Edges.FAR) {
                call(one, a);
            }
            sameText(one);
        }
    }

    private void sweep(int arguments, int[] numbers) {
        for (Call one : byArguments.get(arguments)) {
            renew();
            int all = (int) Math.round(Math.pow(numbers.length, arguments));
            int[] a = new int[arguments];
            for (int which = 0; which < all; which++) {
                int left = which;
                for (int i = 0; i < arguments; i++) {
                    a[i] = numbers[left % numbers.length];
                    left /= numbers.length;
                }
                call(one, a);
            }
            sameText(one);
        }
    }
}
