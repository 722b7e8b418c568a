/** Promises 1 to 11: the new object and the calls of MARKS. */
final class MarksTest {
    private static final long NO = MarkedCurves.NO;

    private final Check check;

    private MarksTest(Check check) {
        this.check = check;
    }

    static void run(Check check) {
        MarksTest test = new MarksTest(check);
        test.newObject();
        test.genus();
        test.mark();
        test.take();
        test.change();
        test.order();
        test.of();
        test.number();
        test.rule();
        test.met();
        test.kappa();
        test.kappaOfWhatIsNotTold();
    }

    /** A desk with this GENUS and MARKS. */
    static MarkedCurves with(int g, int... powers) {
        MarkedCurves x = new MarkedCurves();
        x.genus(g);
        for (int d : powers) {
            x.mark(d);
        }
        return x;
    }

    private void powersAre(MarkedCurves x, int... powers) {
        check.due("count(1)", x.count(1), powers.length);
        for (int i = 0; i < powers.length; i++) {
            check.due("of(" + i + ")", x.of(i), powers[i]);
        }
        check.due("of behind the last", x.of(powers.length), -1);
    }

    private void numberIs(MarkedCurves x, long above, long below) {
        check.due("number(0)", x.number(0), above);
        check.due("number(1)", x.number(1), below);
    }

    private void newObject() {
        check.promise(1);
        MarkedCurves x = new MarkedCurves();
        check.due("BAD", MarkedCurves.BAD, -1);
        check.due("NOT", MarkedCurves.NOT, -2);
        check.due("FULL", MarkedCurves.FULL, -3);
        check.due("STATE", MarkedCurves.STATE, -5);
        check.due("NO", MarkedCurves.NO, Long.MIN_VALUE);
        int[] counts = {0, 0, 4, 0, 0, 0, 0};
        for (int what = 0; what < counts.length; what++) {
            check.due("count(" + what + ")", x.count(what), counts[what]);
        }
        check.due("of(0)", x.of(0), -1);
        check.due("splitAt(0)", x.splitAt(0), -2);
        check.due("valence(0)", x.valence(0), 4);
        check.due("undo()", x.undo(), -5);
        check.due("again()", x.again(), -5);
        check.due("why(0, 0)", x.why(0, 0), -2);
        check.due("restore()", x.restore(), -5);
        for (int h = 0; h < 6; h++) {
            check.due("lose(" + h + ")", x.lose(h), 0);
        }
        numberIs(x, 0, 1);
        MarkedCurves other = new MarkedCurves();
        x.mark(3);
        check.due("MARKS of another object", other.count(1), 0);
    }

    private void genus() {
        check.promise(2);
        MarkedCurves x = new MarkedCurves();
        check.due("genus(2)", x.genus(2), 0);
        check.due("genus(1)", x.genus(1), 2);
        for (int g : new int[] {-1, 3, Integer.MIN_VALUE, Integer.MAX_VALUE}) {
            check.due("genus(" + g + ")", x.genus(g), -1);
        }
        check.due("count(0)", x.count(0), 1);
        check.due("count(4)", x.count(4), 2);
        check.due("genus(1) again", x.genus(1), 1);
        check.due("count(4)", x.count(4), 2);
        check.due("genus(0)", x.genus(0), 1);
    }

    private void mark() {
        check.promise(3);
        MarkedCurves x = new MarkedCurves();
        check.due("mark(-1)", x.mark(-1), -1);
        check.due("mark(13)", x.mark(13), -1);
        for (int i = 0; i < 8; i++) {
            check.due("mark", x.mark(i == 0 ? 12 : i), i + 1);
        }
        check.due("mark(13) of eight", x.mark(13), -1);
        check.due("mark(0) of eight", x.mark(0), -3);
        powersAre(x, 12, 1, 2, 3, 4, 5, 6, 7);
        check.due("count(4)", x.count(4), 8);
    }

    private void take() {
        check.promise(4);
        MarkedCurves x = with(0, 5, 6, 7);
        check.due("take(3)", x.take(3), -1);
        check.due("take(-1)", x.take(-1), -1);
        check.due("take(max)", x.take(Integer.MAX_VALUE), -1);
        check.due("take(1)", x.take(1), 2);
        powersAre(x, 5, 7);
        check.due("take(1)", x.take(1), 1);
        powersAre(x, 5);
        check.due("take(0)", x.take(0), 0);
        powersAre(x);
        check.due("take(0) of none", x.take(0), -1);
        MarkedCurves full = with(0, 1, 2, 3, 4, 5, 6, 7, 8);
        check.due("take(0) of eight", full.take(0), 7);
        powersAre(full, 2, 3, 4, 5, 6, 7, 8);
    }

    private void change() {
        check.promise(5);
        MarkedCurves x = with(0, 5, 6);
        check.due("change(2, 1)", x.change(2, 1), -1);
        check.due("change(-1, 1)", x.change(-1, 1), -1);
        check.due("change(0, 13)", x.change(0, 13), -1);
        check.due("change(0, -1)", x.change(0, -1), -1);
        powersAre(x, 5, 6);
        check.due("change(0, 12)", x.change(0, 12), 5);
        check.due("change(1, 0)", x.change(1, 0), 6);
        powersAre(x, 12, 0);
        int deeds = x.count(4);
        check.due("change(1, 0) again", x.change(1, 0), 0);
        check.due("count(4)", x.count(4), deeds);
        check.due("change of none", new MarkedCurves().change(0, 0), -1);
    }

    private void order() {
        check.promise(6);
        MarkedCurves x = with(0, 3, 1, 2, 1);
        check.due("order(4)", x.order(4), -1);
        check.due("order(-1)", x.order(-1), -1);
        powersAre(x, 3, 1, 2, 1);
        check.due("order(0)", x.order(0), 2);
        powersAre(x, 1, 1, 2, 3);
        check.due("order(0) again", x.order(0), 0);
        check.due("order(1)", x.order(1), 4);
        powersAre(x, 3, 2, 1, 1);
        check.due("order(3)", x.order(3), 3);
        powersAre(x, 2, 1, 1, 3);
        check.due("order(2)", x.order(2), 2);
        powersAre(x, 3, 1, 1, 2);
        check.due("order(3) of none", new MarkedCurves().order(3), 0);
        check.due("order(2) of one", with(0, 4).order(2), 0);
        MarkedCurves odd = with(0, 1, 2, 3);
        check.due("order(2) of three", odd.order(2), 2);
        powersAre(odd, 3, 2, 1);
        check.due("count(4)", odd.count(4), 4);
        check.due("order(1), as it is", odd.order(1), 0);
        check.due("count(4)", odd.count(4), 4);
    }

    private void of() {
        check.promise(7);
        MarkedCurves x = with(0, 9, 12);
        powersAre(x, 9, 12);
        check.due("of(-1)", x.of(-1), -1);
        check.due("of(8)", x.of(8), -1);
        check.due("of(min)", x.of(Integer.MIN_VALUE), -1);
        x.take(1);
        check.due("of(1), taken", x.of(1), -1);
    }

    private void number() {
        check.promise(8);
        numberIs(with(0, 0, 0, 0), 1, 1);
        numberIs(with(1, 1), 1, 24);
        numberIs(with(2, 4), 1, 1152);
        numberIs(with(2, 3, 2), 29, 5760);
        numberIs(with(2, 2, 2, 2), 7, 240);
        numberIs(with(0, 0, 0, 0, 1), 1, 1);
        numberIs(with(0, 2, 0, 0, 0, 0), 1, 1);
        numberIs(with(0, 1, 0, 1, 0, 0), 2, 1);
        numberIs(with(0, 0, 0, 0, 0, 0, 1, 1, 3), 20, 1);
        numberIs(with(1, 1, 1), 1, 24);
        numberIs(with(1, 0, 2), 1, 24);
        numberIs(with(1, 1, 1, 1), 1, 12);
        numberIs(with(1, 2, 2, 0, 0), 1, 6);
        numberIs(with(1, 1, 1, 1, 1, 1, 1, 1, 1), 210, 1);
        numberIs(with(2, 1, 4), 1, 384);
        numberIs(with(2, 0, 5), 1, 1152);
        // Not above 0, and powers that are too few or too many.
        numberIs(new MarkedCurves(), 0, 1);
        numberIs(with(1), 0, 1);
        numberIs(with(2), 0, 1);
        numberIs(with(0, 0), 0, 1);
        numberIs(with(0, 0, 0), 0, 1);
        numberIs(with(0, 0, 0, 1), 0, 1);
        numberIs(with(2, 3), 0, 1);
        numberIs(with(0, 12, 12, 12, 12, 12, 12, 12, 12), 0, 1);
        for (int part : new int[] {-1, 2, Integer.MAX_VALUE, Integer.MIN_VALUE}) {
            check.due("number(" + part + ")", with(1, 1).number(part), NO);
        }
    }

    private void rule() {
        check.promise(9);
        check.due("rule of none", new MarkedCurves().rule(), 0);
        check.due("rule of 0 0 0", with(0, 0, 0, 0).rule(), 1);
        check.due("rule of 1:1", with(1, 1).rule(), 1);
        check.due("rule of 2:4", with(2, 4).rule(), 1);
        check.due("rule of 2:3,2", with(2, 3, 2).rule(), 1);
        check.due("rule of 2:2,2,2", with(2, 2, 2, 2).rule(), 1);
        check.due("rule of 0:0,0,0,1", with(0, 0, 0, 0, 1).rule(), 2);
        check.due("rule of 2:5,0", with(2, 5, 0).rule(), 2);
        check.due("rule of 2:1,0,5: STRING is ahead", with(2, 1, 0, 6).rule(), 0);
        check.due("rule of 1:1,0,2: STRING is ahead", with(1, 1, 0, 2).rule(), 2);
        check.due("rule of 1:1,1", with(1, 1, 1).rule(), 3);
        check.due("rule of 2:4,1", with(2, 4, 1).rule(), 3);
        check.due("rule of 2:4,4", with(2, 4, 4).rule(), 0);
    }

    private void met() {
        check.promise(10);
        check.due("met of none", new MarkedCurves().met(), 0);
        check.due("met of what is 0", with(0, 1, 1).met(), 0);
        check.due("met of 0 0 0", with(0, 0, 0, 0).met(), 1);
        check.due("met of 1:1,1,1", with(1, 1, 1, 1).met(), 3);
        // 1:0,0,3 from 1:0,2 from 1:1.
        check.due("met of 1:0,0,3", with(1, 0, 0, 3).met(), 3);
        // 0:0,0,0,0,1,1 leads to 0:0,0,0,0,1... by one way, though two places do.
        check.due("met of 0:1,1,0,0,0", with(0, 1, 1, 0, 0, 0).met(), 3);
        check.due("met of 0:0,0,0,0,1,2", with(0, 0, 0, 0, 0, 1, 2).met(), 5);
        MarkedCurves x = with(2, 2, 3, 1);
        check.due("met of 2:2,3,1", x.met(), 2);
        check.due("met of 2:2,3,1 again", x.met(), 2);
        x.order(1);
        check.due("met of 2:3,2,1", x.met(), 2);
    }

    private void kappa() {
        check.promise(11);
        MarkedCurves none = with(2);
        check.due("kappa 3 above", none.kappa(3, -1, -1, 0), 1);
        check.due("kappa 3 below", none.kappa(3, -1, -1, 1), 1152);
        check.due("kappa 2 1 above", none.kappa(2, 1, -1, 0), 1);
        check.due("kappa 2 1 below", none.kappa(2, 1, -1, 1), 240);
        check.due("kappa 1 2 above", none.kappa(1, 2, -1, 0), 1);
        check.due("kappa 1 1 1 above", none.kappa(1, 1, 1, 0), 43);
        check.due("kappa 1 1 1 below", none.kappa(1, 1, 1, 1), 2880);
        MarkedCurves one = with(1, 1);
        check.due("kappa of none above", one.kappa(-1, -1, -1, 0), 1);
        check.due("kappa of none below", one.kappa(-1, -1, -1, 1), 24);
        // KAPPA of 0 is 2 g less 2 plus n times the NUMBER.
        check.due("kappa 0 below", one.kappa(0, -1, -1, 1), 24);
        check.due("kappa 0 0 0 of 1:1,1", with(1, 1, 1).kappa(0, 0, 0, 0), 1);
        check.due("kappa 0 0 0 of 1:1,1", with(1, 1, 1).kappa(0, 0, 0, 1), 3);
        check.due("kappa 9 9 9", one.kappa(9, 9, 9, 0), 0);
        check.due("kappa 9 9 9", one.kappa(9, 9, 9, 1), 1);
        MarkedCurves full = with(2, 0, 0, 0, 0, 0, 0, 0, 0);
        check.due("kappa 9 1 1 of eight", full.kappa(9, 1, 1, 0),
            Marks.kappa(2, java.util.Collections.nCopies(8, 0), 9, 1, 1).part(0));
        check.due("count(1)", full.count(1), 8);
    }

    private void kappaOfWhatIsNotTold() {
        MarkedCurves x = with(1, 1);
        int[][] wrong = {
            {-2, -1, -1, 0}, {10, -1, -1, 0}, {0, -2, -1, 0}, {0, 10, -1, 0}, {0, 0, -2, 0},
            {0, 0, 10, 0}, {-1, 0, -1, 0}, {-1, -1, 0, 0}, {0, -1, 0, 0}, {-1, 0, 0, 0},
            {0, 0, 0, 2}, {0, 0, 0, -1}, {-1, -1, -1, 2}, {Integer.MAX_VALUE, 1, 1, 0},
            {1, Integer.MAX_VALUE, 1, 0}, {1, 1, Integer.MAX_VALUE, 0}
        };
        for (int[] w : wrong) {
            check.due("kappa of what is not told", x.kappa(w[0], w[1], w[2], w[3]), NO);
        }
    }
}
