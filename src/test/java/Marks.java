import java.util.ArrayList;
import java.util.Collections;
import java.util.HashMap;
import java.util.HashSet;
import java.util.List;
import java.util.Map;
import java.util.Set;

/** NUMBERS, MET and KAPPA word for word as the document tells them, on lists and fractions. */
final class Marks {
    private static final Map<String, Fraction> KNOWN = new HashMap<>();

    private Marks() {
    }

    static boolean isZero(int g, List<Integer> powers) {
        int n = powers.size();
        int sum = 0;
        for (int d : powers) {
            sum += d;
        }
        return 2 * g - 2 + n <= 0 || sum != 3 * g - 3 + n;
    }

    static Fraction base(int g, List<Integer> rising) {
        if (g == 0 && rising.equals(List.of(0, 0, 0))) {
            return Fraction.of(1, 1);
        }
        if (g == 1 && rising.equals(List.of(1))) {
            return Fraction.of(1, 24);
        }
        if (g == 2 && rising.equals(List.of(4))) {
            return Fraction.of(1, 1152);
        }
        if (g == 2 && rising.equals(List.of(2, 3))) {
            return Fraction.of(29, 5760);
        }
        if (g == 2 && rising.equals(List.of(2, 2, 2))) {
            return Fraction.of(7, 240);
        }
        return null;
    }

    static List<Integer> rising(List<Integer> powers) {
        List<Integer> rising = new ArrayList<>(powers);
        Collections.sort(rising);
        return rising;
    }

    static int rule(int g, List<Integer> powers) {
        if (isZero(g, powers)) {
            return 0;
        }
        if (base(g, rising(powers)) != null) {
            return 1;
        }
        return powers.contains(0) ? 2 : 3;
    }

    /** The rows of powers whose NUMBERS one rule uses: by STRING one for each place. */
    private static List<List<Integer>> next(int g, List<Integer> powers) {
        List<List<Integer>> next = new ArrayList<>();
        int rule = rule(g, powers);
        if (rule == 2) {
            List<Integer> left = new ArrayList<>(powers);
            left.remove(Integer.valueOf(0));
            for (int i = 0; i < left.size(); i++) {
                if (left.get(i) > 0) {
                    List<Integer> one = new ArrayList<>(left);
                    one.set(i, left.get(i) - 1);
                    next.add(rising(one));
                }
            }
        }
        if (rule == 3) {
            List<Integer> left = new ArrayList<>(powers);
            left.remove(Integer.valueOf(1));
            next.add(rising(left));
        }
        return next;
    }

    static Fraction number(int g, List<Integer> powers) {
        if (isZero(g, powers)) {
            return Fraction.ZERO;
        }
        String key = g + ":" + rising(powers);
        Fraction known = KNOWN.get(key);
        if (known != null) {
            return known;
        }
        Fraction number = base(g, rising(powers));
        if (number == null) {
            number = Fraction.ZERO;
            for (List<Integer> row : next(g, powers)) {
                number = number.plus(number(g, row));
            }
            if (rule(g, powers) == 3) {
                number = number.times(2 * g - 2 + powers.size() - 1);
            }
        }
        KNOWN.put(key, number);
        return number;
    }

    static int met(int g, List<Integer> powers) {
        Set<List<Integer>> met = new HashSet<>();
        meet(g, rising(powers), met);
        return met.size();
    }

    private static void meet(int g, List<Integer> rising, Set<List<Integer>> met) {
        if (isZero(g, rising) || !met.add(rising)) {
            return;
        }
        for (List<Integer> row : next(g, rising)) {
            meet(g, row, met);
        }
    }

    private static Fraction with(int g, List<Integer> powers, int... more) {
        List<Integer> all = new ArrayList<>(powers);
        for (int a : more) {
            all.add(a + 1);
        }
        return number(g, all);
    }

    static Fraction kappa(int g, List<Integer> powers, int a, int b, int c) {
        if (a == -1) {
            return number(g, powers);
        }
        if (b == -1) {
            return with(g, powers, a);
        }
        if (c == -1) {
            return with(g, powers, a, b).minus(kappa(g, powers, a + b, -1, -1));
        }
        return with(g, powers, a, b, c)
            .minus(kappa(g, powers, a + b, c, -1))
            .minus(kappa(g, powers, a + c, b, -1))
            .minus(kappa(g, powers, b + c, a, -1))
            .minus(kappa(g, powers, a + b + c, -1, -1).times(2));
    }
}
