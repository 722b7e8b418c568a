import java.util.ArrayDeque;
import java.util.ArrayList;
import java.util.Arrays;
import java.util.Collections;
import java.util.Deque;
import java.util.List;
import java.util.Set;
import java.util.TreeSet;

/** The whole desk, word for word as the document tells it, with no eye to room or speed. */
final class Model {
    static final long NO = Long.MIN_VALUE;
    private static final int BAD = -1, NOT = -2, FULL = -3, STATE = -5;

    private record Desk(int genus, List<Integer> marks, int l, Set<Integer> tree) {
    }

    private record Held(int sort, Fraction number, Set<Integer> tree, int l, int[] row) {
    }

    private Desk desk = new Desk(0, List.of(), 4, Set.of());
    private Desk image;
    private final Deque<Desk> undoable = new ArrayDeque<>();
    private final Deque<Desk> repeatable = new ArrayDeque<>();
    private List<Integer> tape = new ArrayList<>();
    private int[][] why;
    private final Held[] held = new Held[6];

    private void become(Desk next) {
        if (next.equals(desk)) {
            return;
        }
        undoable.push(desk);
        if (undoable.size() > 8) {
            undoable.removeLast();
        }
        repeatable.clear();
        desk = next;
    }

    private void becomeMarks(List<Integer> marks) {
        become(new Desk(desk.genus, List.copyOf(marks), desk.l, desk.tree));
    }

    private void becomeTree(int l, Set<Integer> tree) {
        become(new Desk(desk.genus, desk.marks, l, Set.copyOf(tree)));
    }

    int genus(int g) {
        if (g < 0 || g > 2) {
            return BAD;
        }
        int was = desk.genus;
        become(new Desk(g, desk.marks, desk.l, desk.tree));
        return was;
    }

    int mark(int d) {
        if (d < 0 || d > 12) {
            return BAD;
        }
        if (desk.marks.size() == 8) {
            return FULL;
        }
        List<Integer> marks = new ArrayList<>(desk.marks);
        marks.add(d);
        becomeMarks(marks);
        return marks.size();
    }

    private boolean noMark(int i) {
        return i < 0 || i >= desk.marks.size();
    }

    int take(int i) {
        if (noMark(i)) {
            return BAD;
        }
        List<Integer> marks = new ArrayList<>(desk.marks);
        marks.remove(i);
        becomeMarks(marks);
        return marks.size();
    }

    int change(int i, int d) {
        if (noMark(i) || d < 0 || d > 12) {
            return BAD;
        }
        List<Integer> marks = new ArrayList<>(desk.marks);
        int was = marks.set(i, d);
        becomeMarks(marks);
        return was;
    }

    int order(int how) {
        List<Integer> was = desk.marks;
        List<Integer> marks = new ArrayList<>(was);
        switch (how) {
            case 0: Collections.sort(marks); break;
            case 1: marks.sort(Collections.reverseOrder()); break;
            case 2: Collections.reverse(marks); break;
            case 3: Collections.rotate(marks, -1); break;
            default: return BAD;
        }
        int unlike = 0;
        for (int i = 0; i < marks.size(); i++) {
            unlike += marks.get(i).equals(was.get(i)) ? 0 : 1;
        }
        becomeMarks(marks);
        return unlike;
    }

    int of(int i) {
        return noMark(i) ? BAD : desk.marks.get(i);
    }

    long number(int part) {
        return part < 0 || part > 1 ? NO : Marks.number(desk.genus, desk.marks).part(part);
    }

    int rule() {
        return Marks.rule(desk.genus, desk.marks);
    }

    int met() {
        return Marks.met(desk.genus, desk.marks);
    }

    long kappa(int a, int b, int c, int part) {
        for (int k : new int[] {a, b, c}) {
            if (k < -1 || k > 9) {
                return NO;
            }
        }
        if (part < 0 || part > 1 || a == -1 && b != -1 || b == -1 && c != -1) {
            return NO;
        }
        return Marks.kappa(desk.genus, desk.marks, a, b, c).part(part);
    }

    int leaves(int l) {
        if (l < 3 || l > 6) {
            return BAD;
        }
        int was = desk.l;
        becomeTree(l, Set.of());
        return was;
    }

    int split(int s) {
        if (!Trees.isSplit(s, desk.l)) {
            return BAD;
        }
        if (!Trees.fits(desk.tree, s)) {
            return STATE;
        }
        Set<Integer> tree = new TreeSet<>(desk.tree);
        tree.add(s);
        becomeTree(desk.l, tree);
        return tree.size();
    }

    int join(int s) {
        if (!Trees.isSplit(s, desk.l)) {
            return BAD;
        }
        Set<Integer> tree = new TreeSet<>(desk.tree);
        if (!tree.remove(s)) {
            return STATE;
        }
        becomeTree(desk.l, tree);
        return tree.size();
    }

    private List<Integer> risingSplits() {
        return new ArrayList<>(new TreeSet<>(desk.tree));
    }

    int splitAt(int k) {
        if (k < 0) {
            return BAD;
        }
        return k < desk.tree.size() ? risingSplits().get(k) : NOT;
    }

    int may(int s) {
        if (!Trees.isSplit(s, desk.l)) {
            return BAD;
        }
        return Trees.fits(desk.tree, s) ? 1 : 0;
    }

    int valence(int s) {
        if (s != 0 && !Trees.isSplit(s, desk.l)) {
            return BAD;
        }
        if (s != 0 && !desk.tree.contains(s)) {
            return STATE;
        }
        return Trees.at(desk.tree, desk.l, s).size();
    }

    int trees(int l, int k) {
        return l < 3 || l > 6 || k < 0 || k > 9 ? BAD : Trees.list(l, k).size();
    }

    int tree(int l, int k, int i, int j) {
        if (l < 3 || l > 6 || k < 0 || k > 9 || i < 0 || j < 0) {
            return BAD;
        }
        List<List<Integer>> listed = Trees.list(l, k);
        return i < listed.size() && j < k ? listed.get(i).get(j) : NOT;
    }

    int forget(int leaf) {
        if (leaf < 0 || leaf >= desk.l) {
            return BAD;
        }
        if (desk.l == 3) {
            return STATE;
        }
        becomeTree(desk.l - 1, Trees.forget(desk.tree, desk.l, leaf));
        return desk.tree.size();
    }

    long onTree() {
        if (desk.marks.size() != desk.l) {
            return NO;
        }
        return Trees.onTree(desk.tree, desk.l, desk.marks).part(0);
    }

    int undo() {
        if (undoable.isEmpty()) {
            return STATE;
        }
        repeatable.push(desk);
        desk = undoable.pop();
        return undoable.size();
    }

    int again() {
        if (repeatable.isEmpty()) {
            return STATE;
        }
        undoable.push(desk);
        desk = repeatable.pop();
        return repeatable.size();
    }

    int feed(int v, int n) {
        if (n < 1 || n > 4) {
            return BAD;
        }
        if (tape.size() + n > 60) {
            return FULL;
        }
        for (int k = n - 1; k >= 0; k--) {
            tape.add(v >> 8 * k & 0xff);
        }
        return tape.size();
    }

    int wipe() {
        int was = tape.size();
        tape.clear();
        return was;
    }

    int read() {
        int[] bytes = tape.stream().mapToInt(b -> b).toArray();
        tape = new ArrayList<>();
        TextForm form = new TextForm();
        int wrong = form.take(bytes);
        if (wrong != -1) {
            keepWhy(bytes, 6, wrong);
            return -1000 - wrong;
        }
        int cannotBe = form.cannotBe();
        if (cannotBe != -1) {
            keepWhy(bytes, 7, cannotBe);
            return -2000 - cannotBe;
        }
        int l = form.slash ? form.leafCount() : desk.l;
        Set<Integer> tree = form.slash ? form.tree() : desk.tree;
        become(new Desk(form.genus(), List.copyOf(form.powers()), l, Set.copyOf(tree)));
        return desk.marks.size();
    }

    private void keepWhy(int[] bytes, int how, int place) {
        StringBuilder ahead = new StringBuilder();
        for (int i = 0; i < place; i++) {
            ahead.append((char) bytes[i]);
        }
        int[] where;
        if (place == 0) {
            where = new int[] {2, 0};
        } else if (ahead.indexOf("/") < 0) {
            where = new int[] {3, (int) ahead.chars().filter(c -> c == ',').count()};
        } else if (ahead.charAt(place - 1) == '/') {
            where = new int[] {4, 0};
        } else {
            where = new int[] {5, (int) ahead.chars().filter(c -> c == ';').count()};
        }
        why = new int[][] {{1, bytes.length}, where, {how, place}};
    }

    int why(int i, int what) {
        if (i < 0 || i > 2 || what < 0 || what > 1) {
            return BAD;
        }
        return why == null ? NOT : why[i][what];
    }

    String text() {
        StringBuilder text = new StringBuilder().append(desk.genus).append(':');
        for (int i = 0; i < desk.marks.size(); i++) {
            text.append(i == 0 ? "" : ",").append(desk.marks.get(i));
        }
        text.append('/').append(desk.l);
        for (int s : risingSplits()) {
            text.append(';');
            for (int k : Trees.leaves(s)) {
                text.append(k);
            }
        }
        return text.toString();
    }

    int spell(int i) {
        if (i < -1) {
            return BAD;
        }
        String text = text();
        if (i == -1) {
            return text.length();
        }
        return i < text.length() ? text.charAt(i) : NOT;
    }

    private boolean noHolder(int h) {
        return h < 0 || h > 5;
    }

    private int sort(int h) {
        return held[h] == null ? 0 : held[h].sort;
    }

    private int refusal(int h, int sort) {
        if (noHolder(h)) {
            return BAD;
        }
        if (held[h] == null) {
            return -11;
        }
        return held[h].sort == sort ? 0 : -12;
    }

    int hold(int h, int what) {
        if (noHolder(h) || what < 0 || what > 1) {
            return BAD;
        }
        if (what == 0) {
            held[h] = new Held(1, Marks.number(desk.genus, desk.marks), null, 0, null);
            return desk.marks.size();
        }
        held[h] = new Held(2, null, desk.tree, desk.l, null);
        return desk.tree.size();
    }

    int lose(int h) {
        if (noHolder(h)) {
            return BAD;
        }
        int was = sort(h);
        held[h] = null;
        return was;
    }

    int taken(int h, int kind) {
        if (noHolder(h) || kind < 0 || kind > 3) {
            return BAD;
        }
        if (held[h] == null) {
            return -11;
        }
        Held it = held[h];
        if (it.sort == 1) {
            return kind == 0 ? (int) (it.number.part(0) % 1000003) : -12;
        }
        if (it.sort != 2) {
            return -12;
        }
        boolean full = Trees.at(it.tree, it.l, 0).size() == 3;
        for (int s : it.tree) {
            full = full && Trees.at(it.tree, it.l, s).size() == 3;
        }
        switch (kind) {
            case 1: return it.tree.size();
            case 2: return full ? it.l : -12;
            case 3: return it.tree.isEmpty() && !full ? it.l : -12;
            default: return -12;
        }
    }

    int common(int h) {
        int refusal = refusal(h, 2);
        if (refusal != 0) {
            return refusal;
        }
        if (held[h].l != desk.l) {
            return STATE;
        }
        Set<Integer> both = new TreeSet<>(desk.tree);
        both.retainAll(held[h].tree);
        return both.size();
    }

    int row(int h, int n) {
        if (noHolder(h) || n > 20) {
            return BAD;
        }
        if (n < 0) {
            return -14;
        }
        held[h] = new Held(3, null, null, 0, new int[n]);
        return n;
    }

    int set(int h, int i, int v) {
        int refusal = refusal(h, 3);
        if (refusal != 0) {
            return refusal;
        }
        if (i < 0 || i >= held[h].row.length) {
            return -13;
        }
        held[h].row[i] = v;
        return 1;
    }

    long get(int h, int i) {
        if (refusal(h, 3) != 0 || i < 0 || i >= held[h].row.length) {
            return NO;
        }
        return held[h].row[i];
    }

    int judge(int h) {
        int refusal = refusal(h, 3);
        if (refusal != 0) {
            return refusal;
        }
        int[] splits = risingSplits().stream().mapToInt(s -> s).toArray();
        int place = Arrays.mismatch(held[h].row, splits);
        return place == -1 ? NOT : place;
    }

    int image() {
        image = desk;
        return desk.marks.size();
    }

    int restore() {
        if (image == null) {
            return STATE;
        }
        desk = image;
        undoable.clear();
        repeatable.clear();
        return desk.marks.size();
    }

    int count(int what) {
        switch (what) {
            case 0: return desk.genus;
            case 1: return desk.marks.size();
            case 2: return desk.l;
            case 3: return desk.tree.size();
            case 4: return undoable.size();
            case 5: return repeatable.size();
            case 6: return tape.size();
            default: return BAD;
        }
    }

    /** All SPLITS of L LEAVES as they are, for runs that want some. */
    List<Integer> splitsOfNow() {
        List<Integer> splits = new ArrayList<>();
        for (int s = 0; s < 64; s++) {
            if (Trees.isSplit(s, desk.l)) {
                splits.add(s);
            }
        }
        return splits;
    }

    int l() {
        return desk.l;
    }
}
