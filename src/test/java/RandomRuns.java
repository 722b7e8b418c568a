import java.util.List;
import java.util.Random;

/** Long runs of calls, each answer set against the model's. The seeds are fixed. */
final class RandomRuns {
    /** A run ends where its next step could lead beyond the calls that an object is promised for. */
    private static final int RUNS = 4000, CALLS = 512, MOST_AT_ONCE = 80;
    private static final int[] ODD = {
        -1, -2, 7, 9, 10, 13, 20, 21, 60, 61, 62, 63, 64, 65, 100, 1 << 30,
        Integer.MAX_VALUE, Integer.MAX_VALUE - 1, Integer.MIN_VALUE, Integer.MIN_VALUE + 1
    };

    private final Check check;
    private final Random random;
    private final MarkedCurves desk = new MarkedCurves();
    private final Model model = new Model();
    private int calls;

    private RandomRuns(Check check, long seed) {
        this.check = check;
        random = new Random(seed);
    }

    static void run(Check check) {
        for (int seed = 0; seed < RUNS; seed++) {
            RandomRuns run = new RandomRuns(check, seed);
            int bent = seed % 4;
            while (run.calls <= CALLS - MOST_AT_ONCE) {
                run.call(bent);
            }
        }
    }

    private int below(int n) {
        return random.nextInt(n);
    }

    /** Mostly from low to high, now and then a little outside, seldom far outside. */
    private int about(int low, int high) {
        int dice = below(20);
        if (dice == 0) {
            return below(2) == 0 ? low - 1 : high + 1;
        }
        if (dice == 1 && below(3) == 0) {
            return ODD[below(ODD.length)];
        }
        return low + below(high - low + 1);
    }

    private int someSplit() {
        List<Integer> splits = model.splitsOfNow();
        if (splits.isEmpty() || below(12) == 0) {
            return about(0, 64);
        }
        return splits.get(below(splits.size()));
    }

    private void call(int bent) {
        int dice = below(100);
        if (bent == 1) {
            dice = below(2) == 0 ? 40 + below(30) : dice;
        } else if (bent == 2) {
            dice = below(2) == 0 ? 20 + below(20) : dice;
        } else if (bent == 3) {
            dice = below(2) == 0 ? 70 + below(30) : dice;
        }
        if (dice < 20) {
            callMarks(below(16));
        } else if (dice < 40) {
            callTrees(below(13));
        } else if (dice < 70) {
            callDeedsAndTexts(below(12));
        } else {
            callHolders(below(13));
        }
        if (below(8) == 0) {
            int what = about(0, 6);
            due(39, "count", desk.count(what), model.count(what), what);
        }
    }

    private void due(int promise, String name, long got, long want, int... args) {
        check.promise(promise);
        calls++;
        if (got == want) {
            check.holds(name, true);
            return;
        }
        StringBuilder call = new StringBuilder(name).append('(');
        for (int a : args) {
            call.append(a).append(' ');
        }
        check.due(call.append(") at ").append(model.text()).toString(), got, want);
    }

    private void callMarks(int which) {
        int i = about(0, 7);
        // Low powers, that NUMBERS are not all 0.
        int d = below(3) == 0 ? about(0, 12) : below(3);
        int part = about(0, 1);
        switch (which) {
            case 0: due(2, "genus", desk.genus(d), model.genus(d), d); break;
            case 1: case 2: case 3: due(3, "mark", desk.mark(d), model.mark(d), d); break;
            case 4: due(4, "take", desk.take(i), model.take(i), i); break;
            case 5: due(5, "change", desk.change(i, d), model.change(i, d), i, d); break;
            case 6: case 7:
                int how = about(0, 3);
                due(6, "order", desk.order(how), model.order(how), how);
                break;
            case 8: due(7, "of", desk.of(i), model.of(i), i); break;
            case 9: case 10: due(8, "number", desk.number(part), model.number(part), part); break;
            case 11: due(9, "rule", desk.rule(), model.rule()); break;
            case 12: due(10, "met", desk.met(), model.met()); break;
            default: callKappa(part); break;
        }
    }

    private void callKappa(int part) {
        int a = below(8) == 0 ? about(-1, 9) : below(4);
        int b = below(8) == 0 ? about(-1, 9) : below(4) - 1;
        int c = below(8) == 0 ? about(-1, 9) : below(4) - 1;
        due(11, "kappa", desk.kappa(a, b, c, part), model.kappa(a, b, c, part), a, b, c, part);
    }

    private void callTrees(int which) {
        int s = someSplit();
        int k = about(0, 3);
        switch (which) {
            case 0:
                int l = below(3) == 0 ? about(3, 6) : 6;
                due(12, "leaves", desk.leaves(l), model.leaves(l), l);
                break;
            case 1: case 2: case 3: due(13, "split", desk.split(s), model.split(s), s); break;
            case 4: due(14, "join", desk.join(s), model.join(s), s); break;
            case 5: due(15, "splitAt", desk.splitAt(k), model.splitAt(k), k); break;
            case 6: due(16, "may", desk.may(s), model.may(s), s); break;
            case 7: case 8:
                int at = below(3) == 0 ? 0 : s;
                if (below(2) == 0 && model.splitAt(k) > 0) {
                    at = model.splitAt(k);
                }
                due(17, "valence", desk.valence(at), model.valence(at), at);
                break;
            case 9: callForget(); break;
            default: callOnTree(); break;
        }
    }

    private void callForget() {
        int leaf = about(0, model.l() - 1);
        due(20, "forget", desk.forget(leaf), model.forget(leaf), leaf);
    }

    private void callOnTree() {
        // As many MARKS as LEAVES come seldom by chance.
        while (model.count(1) > model.l()) {
            due(4, "take", desk.take(0), model.take(0), 0);
        }
        while (model.count(1) < model.l() && below(15) != 0) {
            int d = below(4) == 0 ? below(4) : 0;
            due(3, "mark", desk.mark(d), model.mark(d), d);
        }
        due(21, "onTree", desk.onTree(), model.onTree());
    }

    private void callDeedsAndTexts(int which) {
        switch (which) {
            case 0: case 1: case 2: due(22, "undo", desk.undo(), model.undo()); break;
            case 3: case 4: due(23, "again", desk.again(), model.again()); break;
            case 5:
                int v = random.nextInt();
                int n = about(1, 4);
                due(24, "feed", desk.feed(v, n), model.feed(v, n), v, n);
                break;
            case 6: due(25, "wipe", desk.wipe(), model.wipe()); break;
            case 7: case 8: callRead(); break;
            case 9:
                int layer = about(0, 2);
                int what = about(0, 1);
                due(27, "why", desk.why(layer, what), model.why(layer, what), layer, what);
                break;
            default: callSpell(); break;
        }
    }

    private void callSpell() {
        if (below(3) == 0) {
            for (int i = -1; i <= model.spell(-1); i++) {
                due(28, "spell", desk.spell(i), model.spell(i), i);
            }
        }
        int i = about(-1, 42);
        due(28, "spell", desk.spell(i), model.spell(i), i);
    }

    private void callRead() {
        if (below(4) != 0) {
            due(25, "wipe", desk.wipe(), model.wipe());
        }
        String text = RandomTexts.text(random);
        for (int i = 0; i < text.length(); i++) {
            due(24, "feed", desk.feed(text.charAt(i), 1), model.feed(text.charAt(i), 1), i);
        }
        due(26, "read of " + text, desk.read(), model.read());
        for (int i = 0; i < 3; i++) {
            for (int what = 0; what < 2; what++) {
                due(27, "why of " + text, desk.why(i, what), model.why(i, what), i, what);
            }
        }
    }

    private void callHolders(int which) {
        int h = about(0, 5);
        int i = about(0, 4);
        switch (which) {
            case 0: case 1:
                int what = about(0, 1);
                due(29, "hold", desk.hold(h, what), model.hold(h, what), h, what);
                break;
            case 2: due(30, "lose", desk.lose(h), model.lose(h), h); break;
            case 3: case 4:
                int kind = about(0, 3);
                due(31, "taken", desk.taken(h, kind), model.taken(h, kind), h, kind);
                break;
            case 5: due(32, "common", desk.common(h), model.common(h), h); break;
            case 6:
                int n = below(3) == 0 ? about(0, 20) : below(4);
                due(33, "row", desk.row(h, n), model.row(h, n), h, n);
                break;
            case 7: case 8:
                int s = below(2) == 0 && model.splitAt(i & 3) > 0 ? model.splitAt(i & 3) : i;
                due(34, "set", desk.set(h, i, s), model.set(h, i, s), h, i, s);
                break;
            case 9: due(35, "get", desk.get(h, i), model.get(h, i), h, i); break;
            case 10: due(36, "judge", desk.judge(h), model.judge(h), h); break;
            case 11: due(37, "image", desk.image(), model.image()); break;
            default: due(38, "restore", desk.restore(), model.restore()); break;
        }
    }
}
