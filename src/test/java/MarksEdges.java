/** The boundaries that the document names of the new object and of MARKS (promises 1 to 11). */
final class MarksEdges extends Edges {
    private static final String EIGHT = "0:1,2,3,4,5,6,7,8/4";

    private MarksEdges(Check check, Boundaries boundaries) {
        super(check, boundaries);
    }

    static void run(Check check, Boundaries boundaries) {
        MarksEdges test = new MarksEdges(check, boundaries);
        test.newObject();
        test.twoObjects();
        test.lastCall();
        test.genus();
        test.mark();
        test.take();
        test.change();
        test.order();
        test.of();
        test.number();
        test.numberThatIsZero();
        test.base();
        test.string();
        test.dilaton();
        test.rule();
        test.met();
        test.kappaThatIsTold();
        test.kappaThatIsNotTold();
        test.kappaOfManyPowers();
    }

    private void newObject() {
        boundaries.promise(1, "GENUS 0, no MARKS; four LEAVES, no SPLITS.");
        isAs(new MarkedCurves(), "0:/4");
        boundaries.terms(1, "(0, 1, 2; 0 at first)");
        check.due("count(0)", new MarkedCurves().count(0), 0);
        boundaries.terms(1, "(none at first); n: how many there are");
        check.due("count(1)", new MarkedCurves().count(1), 0);
        check.due("of(0)", new MarkedCurves().of(0), -1);
        boundaries.terms(1, "(L 3 .. 6; 4 at first)");
        check.due("count(2)", new MarkedCurves().count(2), 4);
        boundaries.terms(1, "THE TREE: without SPLITS at first.");
        check.due("count(3)", new MarkedCurves().count(3), 0);
        check.due("splitAt(0)", new MarkedCurves().splitAt(0), -2);
    }

    private void twoObjects() {
        boundaries.terms(1, "All memory is the class's own.");
        MarkedCurves x = new MarkedCurves();
        MarkedCurves other = new MarkedCurves();
        read(x, "9:");
        read(x, "2:2,2,2/6;12;34");
        x.hold(0, 0);
        x.row(1, 20);
        x.image();
        x.met();
        x.undo();
        x.feed(0, 4);
        isAs(other, "0:/4");
        for (int what = 4; what <= 6; what++) {
            check.due("count(" + what + ") of another object", other.count(what), 0);
        }
        check.due("why(0, 0) of another object", other.why(0, 0), -2);
        check.due("lose(0) of another object", other.lose(0), 0);
        check.due("lose(1) of another object", other.lose(1), 0);
        check.due("restore() of another object", other.restore(), -5);
        check.due("met() of another object", other.met(), 0);
    }

    private void lastCall() {
        boundaries.terms(1, "An object is used for at most 512 calls after it has been made");
        MarkedCurves x = new MarkedCurves();
        for (int call = 0; call < 510; call++) {
            x.genus((call + 1) % 3);
        }
        check.due("call 511", x.genus(2), 0);
        check.due("call 512", x.undo(), 7);
    }

    private void genus() {
        boundaries.promise(2, "GENUS becomes g (0 .. 2)");
        MarkedCurves x = new MarkedCurves();
        check.due("genus(2), the highest", x.genus(2), 0);
        check.due("genus(0), the lowest", x.genus(0), 2);
        check.due("genus(1)", x.genus(1), 0);
        boundaries.promise(2, "what it was. BAD.");
        check.due("genus(3)", x.genus(3), -1);
        check.due("genus(-1)", x.genus(-1), -1);
        for (int g : FAR) {
            check.due("genus(" + g + ")", x.genus(g), -1);
        }
        check.due("count(0)", x.count(0), 1);
        deedsAre(x, 3, 0);
    }

    private void mark() {
        boundaries.promise(3, "A MARK of power d (0 .. 12)");
        MarkedCurves x = new MarkedCurves();
        check.due("mark(0), the lowest", x.mark(0), 1);
        check.due("mark(12), the highest", x.mark(12), 2);
        isAs(x, "0:0,12/4");
        boundaries.promise(3, "how many there are. BAD;");
        check.due("mark(13)", x.mark(13), -1);
        check.due("mark(-1)", x.mark(-1), -1);
        for (int d : FAR) {
            check.due("mark(" + d + ")", x.mark(d), -1);
        }
        isAs(x, "0:0,12/4");
        boundaries.terms(3, "each 0 .. 12, 8 at most");
        MarkedCurves full = desk("0:1,2,3,4,5,6,7/4");
        check.due("mark(8), the eighth", full.mark(8), 8);
        isAs(full, EIGHT);
        boundaries.promise(3, "FULL: there are 8.");
        check.due("mark(0), the ninth", full.mark(0), -3);
        check.due("mark(12), the ninth", full.mark(12), -3);
        isAs(full, EIGHT);
        boundaries.terms(3, "FULL (-3) there is no room");
        check.due("take(7)", full.take(7), 7);
        check.due("mark(9), there is room again", full.mark(9), 8);
        check.due("mark(9)", full.mark(9), -3);
    }

    private void take() {
        boundaries.promise(4, "MARK i is no more");
        MarkedCurves full = desk(EIGHT);
        check.due("take(7), the last", full.take(7), 7);
        check.due("take(0), the first", full.take(0), 6);
        isAs(full, "0:2,3,4,5,6,7/4");
        MarkedCurves one = desk("0:5/4");
        check.due("take(0), the only one", one.take(0), 0);
        isAs(one, "0:/4");
        boundaries.promise(4, "how many there are. BAD.");
        check.due("take(0) of none", one.take(0), -1);
        check.due("take(6) of six", full.take(6), -1);
        check.due("take(-1)", full.take(-1), -1);
        for (int i : FAR) {
            check.due("take(" + i + ")", full.take(i), -1);
        }
        isAs(full, "0:2,3,4,5,6,7/4");
    }

    private void change() {
        boundaries.promise(5, "becomes d (0 .. 12)");
        MarkedCurves x = desk(EIGHT);
        check.due("change(0, 12), the highest", x.change(0, 12), 1);
        check.due("change(7, 0), the lowest", x.change(7, 0), 8);
        isAs(x, "0:12,2,3,4,5,6,7,0/4");
        boundaries.promise(5, "what it was. BAD.");
        check.due("change(8, 0)", x.change(8, 0), -1);
        check.due("change(-1, 0)", x.change(-1, 0), -1);
        check.due("change(0, 13)", x.change(0, 13), -1);
        check.due("change(0, -1)", x.change(0, -1), -1);
        for (int far : FAR) {
            check.due("change(" + far + ", 1)", x.change(far, 1), -1);
            check.due("change(1, " + far + ")", x.change(1, far), -1);
        }
        isAs(x, "0:12,2,3,4,5,6,7,0/4");
        check.due("change(0, 0) of none", new MarkedCurves().change(0, 0), -1);
    }

    private void order() {
        boundaries.promise(6, "the first one behind the last (3): how many places have another "
            + "power");
        for (int how = 0; how < 4; how++) {
            check.due("order of none", new MarkedCurves().order(how), 0);
            check.due("order of one", desk("0:7/4").order(how), 0);
            check.due("order of like ones", desk("0:7,7,7,7,7,7,7,7/4").order(how), 0);
        }
        int[] of12 = {0, 2, 2, 2};
        int[] of8 = {0, 8, 8, 8};
        String[] orders = {
            EIGHT, "0:8,7,6,5,4,3,2,1/4", "0:8,7,6,5,4,3,2,1/4", "0:2,3,4,5,6,7,8,1/4"
        };
        for (int how = 0; how < 4; how++) {
            check.due("order of 1 2", desk("0:1,2/4").order(how), of12[how]);
            MarkedCurves full = desk(EIGHT);
            check.due("order of eight", full.order(how), of8[how]);
            isAs(full, orders[how]);
        }
        ordersOfAllRows();
        boundaries.promise(6, "another power. BAD.");
        MarkedCurves x = desk("0:2,1,3/4");
        check.due("order(4)", x.order(4), -1);
        check.due("order(-1)", x.order(-1), -1);
        for (int how : FAR) {
            check.due("order(" + how + ")", x.order(how), -1);
        }
        isAs(x, "0:2,1,3/4");
        boundaries.terms(6, "order() compares place by place with what was.");
        check.due("order(2), like ones in another's place", desk("0:1,2,1/4").order(2), 0);
        check.due("order(3)", desk("0:1,1,2/4").order(3), 2);
    }

    /** Rows with the highest and the lowest power at the ends, in the middle, and in each order. */
    private void ordersOfAllRows() {
        orderIs("0:8,7,6,5,4,3,2,1", 0, 8, "0:1,2,3,4,5,6,7,8");
        orderIs("0:2,1", 0, 2, "0:1,2");
        orderIs("0:12,0,0,0,0,0,0,0", 0, 2, "0:0,0,0,0,0,0,0,12");
        orderIs("0:12,12,12,12,12,12,12,0", 0, 2, "0:0,12,12,12,12,12,12,12");
        orderIs("0:0,0,0,0,0,0,0,12", 1, 2, "0:12,0,0,0,0,0,0,0");
        orderIs("0:0,12,5,5,5,5,12,0", 1, 2, "0:12,12,5,5,5,5,0,0");
        orderIs("0:0,12,5,5,5,5,12,0", 0, 2, "0:0,0,5,5,5,5,12,12");
        orderIs("0:12,0,5,5,5,5,12,0", 2, 4, "0:0,12,5,5,5,5,0,12");
        orderIs("0:12,0,0,0,0,0,0,12", 3, 2, "0:0,0,0,0,0,0,12,12");
        orderIs("0:0,12,0,12,0,12,0,12", 3, 8, "0:12,0,12,0,12,0,12,0");
    }

    private void orderIs(String text, int how, int places, String then) {
        MarkedCurves x = desk(text);
        check.due("order(" + how + ") of " + text, x.order(how), places);
        isAs(x, then + "/4");
    }

    private void of() {
        boundaries.promise(7, "The power of MARK i. BAD.");
        MarkedCurves x = desk("0:1,2,3,4,5,6,7,12/4");
        check.due("of(0), the first", x.of(0), 1);
        check.due("of(7), the eighth", x.of(7), 12);
        check.due("of(8)", x.of(8), -1);
        check.due("of(-1)", x.of(-1), -1);
        for (int i : FAR) {
            check.due("of(" + i + ")", x.of(i), -1);
        }
        x.take(7);
        check.due("of(7), taken", x.of(7), -1);
        check.due("of(0) of none", new MarkedCurves().of(0), -1);
    }

    private void numberIs(String text, long above, long below) {
        MarkedCurves x = desk(text);
        check.due("number(0) of " + text, x.number(0), above);
        check.due("number(1) of " + text, x.number(1), below);
    }

    private void number() {
        boundaries.promise(8, "part. NO: BAD.");
        MarkedCurves x = desk("1:1/4");
        check.due("number(2)", x.number(2), NO);
        check.due("number(-1)", x.number(-1), NO);
        for (int part : FAR) {
            check.due("number(" + part + ")", x.number(part), NO);
        }
        boundaries.terms(8, "Parts of fractions: 0 above, 1 below the line.");
        check.due("number(0)", x.number(0), 1);
        check.due("number(1)", x.number(1), 24);
        boundaries.terms(8, "told in lowest terms (0 by 1)");
        numberIs("2:2,2,2", 7, 240);
        numberIs("2:2,3,1,1", 29, 288);
        numberIs("1:1,1,1,1,1,1,1,1", 210, 1);
        numberIs("2:2,2,2,1,1,1,1,1", 441, 1);
        numberIs("2:3", 0, 1);
        numberIs("1:", 0, 1);
        boundaries.terms(8, "`NO = Long.MIN_VALUE`: Told by longs.");
        check.due("NO", MarkedCurves.NO, -9223372036854775808L);
        boundaries.terms(8, "NO (the least long) is told by longs in place of all of these.");
        check.due("number(2)", x.number(2), Long.MIN_VALUE);
        check.due("kappa(10, -1, -1, 0)", x.kappa(10, -1, -1, 0), Long.MIN_VALUE);
        check.due("onTree() of one MARK", x.onTree(), Long.MIN_VALUE);
        check.due("get(0, 0) of nothing", x.get(0, 0), Long.MIN_VALUE);
    }

    private void numberThatIsZero() {
        boundaries.terms(8, "It is 0, if 2 g less 2 plus n is not above 0,");
        // The powers together are what they should be: only these words make it 0.
        numberIs("1:", 0, 1);
        numberIs("0:", 0, 1);
        numberIs("0:0", 0, 1);
        numberIs("0:0,0", 0, 1);
        // Just above 0.
        numberIs("0:0,0,0", 1, 1);
        numberIs("1:1", 1, 24);
        boundaries.terms(8, "if all powers together are not 3 g less 3 plus n.");
        numberIs("0:0,0,1", 0, 1);
        numberIs("0:0,0,0,0", 0, 1);
        numberIs("0:0,0,0,2", 0, 1);
        numberIs("1:0", 0, 1);
        numberIs("1:2", 0, 1);
        numberIs("2:", 0, 1);
        numberIs("2:3", 0, 1);
        numberIs("2:5", 0, 1);
        numberIs("2:12,0,0,0,0,0,0,0", 0, 1);
        numberIs("2:12,12,12,12,12,12,12,12", 0, 1);
        // The highest power that a NUMBER of MARKS has.
        numberIs("2:11,0,0,0,0,0,0,0", 1, 1152);
        numberIs("1:8,0,0,0,0,0,0,0", 1, 24);
        numberIs("0:5,0,0,0,0,0,0,0", 1, 1);
    }

    private void base() {
        boundaries.terms(8, "BASE: 1 for g 0, powers 0 0 0; 1 by 24 for g 1, power 1; 1 by 1152 "
            + "for g 2, power 4; 29 by 5760 for g 2, powers 2 3; 7 by 240 for g 2, powers 2 2 2.");
        numberIs("0:0,0,0", 1, 1);
        numberIs("1:1", 1, 24);
        numberIs("2:4", 1, 1152);
        numberIs("2:2,3", 29, 5760);
        numberIs("2:2,2,2", 7, 240);
        boundaries.terms(8, "Else, whatever the order of the powers:");
        numberIs("2:3,2", 29, 5760);
        numberIs("2:1,3,2", 29, 1440);
        numberIs("2:2,1,3", 29, 1440);
        numberIs("0:1,0,0,0", 1, 1);
        numberIs("0:0,0,1,0", 1, 1);
    }

    private void string() {
        boundaries.terms(8, "STRING, if there is a power 0: one such goes; the NUMBERS of the "
            + "same g and of what is left, in which one power above 0 is 1 less, together: for "
            + "each place with a power above 0 once.");
        // A single 0, and a 0 beside powers that DILATON would take.
        numberIs("1:0,2", 1, 24);
        numberIs("2:0,5", 1, 1152);
        numberIs("2:0,2,4", 11, 1440);
        numberIs("1:0,1,2", 1, 12);
        boundaries.terms(8, "In STRING, like powers at several places count each;");
        numberIs("0:0,0,0,1,1", 2, 1);
        numberIs("0:0,0,0,1,1,1,1,1", 120, 1);
        numberIs("1:0,0,2,2", 1, 6);
    }

    private void dilaton() {
        boundaries.terms(8, "DILATON (there is a power 1 then): one such goes; (2 g less 2 plus "
            + "n less 1) times the NUMBER of the same g and of what is left.");
        numberIs("1:1,1", 1, 24);
        numberIs("2:4,1", 1, 384);
        numberIs("2:3,2,1", 29, 1440);
        boundaries.terms(8, "in DILATON, n is that of the row before one goes.");
        numberIs("1:1,1,1", 1, 12);
        numberIs("2:2,2,2,1", 7, 48);
        numberIs("2:4,1,1,1,1,1,1,1", 315, 2);
    }

    private void ruleIs(String text, int rule) {
        check.due("rule() of " + text, desk(text).rule(), rule);
    }

    private void rule() {
        boundaries.terms(9, "RULE of MARKS: 0 it is 0 by these words; 1 BASE; 2 STRING; 3 "
            + "DILATON.");
        for (String zero : new String[] {"0:", "1:", "2:", "0:0,0", "0:0,0,0,0", "1:0", "1:0,1", "2:3"}) {
            ruleIs(zero, 0);
        }
        for (String base : new String[] {"0:0,0,0", "1:1", "2:4", "2:2,3", "2:3,2", "2:2,2,2"}) {
            ruleIs(base, 1);
        }
        for (String string : new String[] {"0:0,0,0,1", "1:0,2", "1:2,1,0", "2:5,0", "2:3,3,0"}) {
            ruleIs(string, 2);
        }
        for (String dilaton : new String[] {"1:1,1", "2:1,4", "2:2,3,1", "2:2,1,2,2"}) {
            ruleIs(dilaton, 3);
        }
    }

    private void metIs(String text, int met) {
        check.due("met() of " + text, desk(text).met(), met);
    }

    private void met() {
        boundaries.promise(10, "(0, if that of MARKS is 0 by the first two words)");
        for (String zero : new String[] {"0:", "1:", "2:", "0:0,0", "0:0,0,0,0", "1:0,1", "2:12,12"}) {
            metIs(zero, 0);
        }
        boundaries.terms(10, "that of MARKS itself, too: each once.");
        for (String base : new String[] {"0:0,0,0", "1:1", "2:4", "2:2,3", "2:2,2,2"}) {
            metIs(base, 1);
        }
        metIs("1:1,1,1,1,1,1,1,1", 8);
        metIs("2:11,0,0,0,0,0,0,0", 8);
        // Two places lead to the same powers; two ways lead to the same NUMBER.
        metIs("0:0,0,0,1,1", 3);
        metIs("1:0,1,2", 4);
        boundaries.terms(10, "MET: all NUMBERS that are not 0 by the first two words, of unlike "
            + "g and powers (in whatever order), that come up so");
        metIs("2:0,2,4", 4);
        metIs("2:0,4,2", 4);
        boundaries.terms(10, "MET does not count NUMBERS that are 0 by the first two words.");
        metIs("0:1,0,0,0", 2);
        metIs("1:2,0", 2);
        MarkedCurves x = desk("2:5,0,1");
        // What earlier calls have met is met again.
        for (int call = 0; call < 400; call++) {
            check.due("met() again", x.met(), 4);
        }
    }

    private void kappaIs(MarkedCurves x, int[] abc, long above, long below) {
        String name = "kappa(" + abc[0] + ", " + abc[1] + ", " + abc[2] + ")";
        check.due(name, x.kappa(abc[0], abc[1], abc[2], 0), above);
        check.due(name, x.kappa(abc[0], abc[1], abc[2], 1), below);
    }

    private void kappaThatIsTold() {
        boundaries.promise(11, "(each -1 .. 9; -1 just ahead of such alone)");
        MarkedCurves x = desk("2:/4");
        kappaIs(x, new int[] {-1, -1, -1}, 0, 1);
        kappaIs(x, new int[] {0, -1, -1}, 0, 1);
        kappaIs(x, new int[] {9, -1, -1}, 0, 1);
        kappaIs(x, new int[] {3, -1, -1}, 1, 1152);
        kappaIs(x, new int[] {0, 3, -1}, 1, 576);
        kappaIs(x, new int[] {3, 0, -1}, 1, 576);
        kappaIs(x, new int[] {0, 0, 3}, 1, 288);
        kappaIs(x, new int[] {9, 9, 9}, 0, 1);
        boundaries.terms(11, "(each 0 .. 9, or -1: none; those that are none told last)");
        // 9 is told, and is not 0 with just these MARKS.
        kappaIs(desk("2:0,0,0,0,0,0,0/4"), new int[] {9, -1, -1}, 0, 1);
        kappaIs(desk("2:0,0,0,0,0,0/4"), new int[] {9, -1, -1}, 1, 1152);
        kappaIs(desk("2:0,0,0,0,0,0/4"), new int[] {8, 1, -1}, 21, 640);
        boundaries.terms(11, "of none: NUMBER of MARKS.");
        kappaIs(desk("1:1/4"), new int[] {-1, -1, -1}, 1, 24);
        kappaIs(desk("1:/4"), new int[] {-1, -1, -1}, 0, 1);
    }

    private void kappaThatIsNotTold() {
        boundaries.promise(11, "part. NO: BAD.");
        MarkedCurves x = desk("1:1/4");
        int[][] wrong = {
            {-2, -1, -1, 0}, {10, -1, -1, 0}, {0, -2, -1, 0}, {0, 10, -1, 0}, {0, 0, -2, 0},
            {0, 0, 10, 0}, {-1, 0, -1, 0}, {-1, -1, 0, 0}, {0, -1, 0, 0}, {-1, 0, 0, 0},
            {0, 0, 0, 2}, {0, 0, 0, -1}, {-1, -1, -1, 2}, {-1, -1, -1, -1}
        };
        for (int[] w : wrong) {
            check.due("kappa(" + w[0] + ", " + w[1] + ", " + w[2] + ", " + w[3] + ")",
                x.kappa(w[0], w[1], w[2], w[3]), NO);
        }
        for (int far : FAR) {
            check.due("kappa(" + far + ", -1, -1, 0)", x.kappa(far, -1, -1, 0), NO);
            check.due("kappa(0, " + far + ", -1, 0)", x.kappa(0, far, -1, 0), NO);
            check.due("kappa(0, 0, " + far + ", 0)", x.kappa(0, 0, far, 0), NO);
            check.due("kappa(0, 0, 0, " + far + ")", x.kappa(0, 0, 0, far), NO);
        }
    }

    private void kappaOfManyPowers() {
        boundaries.terms(11, "less 2 times that of (a plus b plus c) alone");
        // Eight MARKS and three powers more are the most that come together.
        MarkedCurves eight = desk("0:0,0,0,0,0,0,0,0/4");
        kappaIs(eight, new int[] {5, 0, 0}, 36, 1);
        kappaIs(desk("2:0,0,0,0,0,0,0,0/4"), new int[] {9, 1, 1}, 7567, 2880);
        kappaIs(desk("2:0,0,0,0,0,0,0,0/4"), new int[] {9, 9, 9}, 0, 1);
        check.due("count(1)", eight.count(1), 8);
        kappaIs(desk("1:1,1,1,1,1,1,1,1/4"), new int[] {0, 0, 0}, 107520, 1);
    }
}
