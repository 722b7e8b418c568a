import java.util.ArrayList;
import java.util.List;
import java.util.Set;
import java.util.TreeSet;

/** The form of a TEXT, byte by byte: in each state only some bytes go on. */
final class TextForm {
    private enum In { START, COLON, MARKS, MARK_1, MARK_2, COMMA, SLASH, L, SEMICOLON, SPLIT }

    private In in = In.START;
    private int marks;
    private int splits;
    private int figures;
    private int highest;
    final List<String> words = new ArrayList<>();
    final List<Integer> places = new ArrayList<>();
    boolean slash;

    /** The place of the first byte with which no TEXT goes on, or -1. */
    static int wrong(int[] bytes) {
        return new TextForm().take(bytes);
    }

    int take(int[] bytes) {
        for (int i = 0; i < bytes.length; i++) {
            if (!goOn(bytes[i], i)) {
                return i;
            }
        }
        return canEnd() ? -1 : bytes.length;
    }

    private boolean canEnd() {
        return in == In.MARKS || in == In.MARK_1 || in == In.MARK_2 || in == In.L
            || in == In.SPLIT && figures >= 2;
    }

    private boolean figure(int b, int place, In then, boolean first) {
        if (b < '0' || b > '9') {
            return false;
        }
        if (first) {
            words.add("");
            places.add(place);
        }
        int last = words.size() - 1;
        words.set(last, words.get(last) + (char) b);
        in = then;
        return true;
    }

    private boolean sign(int b, char want, In then) {
        if (b != want) {
            return false;
        }
        in = then;
        return true;
    }

    private boolean slash(int b) {
        slash = slash || b == '/';
        return sign(b, '/', In.SLASH);
    }

    private boolean mark(int b, int place) {
        if (!figure(b, place, In.MARK_1, true)) {
            return false;
        }
        marks++;
        return true;
    }

    private boolean semicolon(int b) {
        if (splits == 3 || !sign(b, ';', In.SEMICOLON)) {
            return false;
        }
        splits++;
        figures = 0;
        highest = -1;
        return true;
    }

    private boolean splitFigure(int b, int place) {
        if (figures == 4 || b - '0' <= highest || !figure(b, place, In.SPLIT, figures == 0)) {
            return false;
        }
        figures++;
        highest = b - '0';
        return true;
    }

    private boolean goOn(int b, int place) {
        switch (in) {
            case START: return figure(b, place, In.COLON, true);
            case COLON: return sign(b, ':', In.MARKS);
            case MARKS: return mark(b, place) || slash(b);
            case MARK_1: return figure(b, place, In.MARK_2, false) || afterMark(b);
            case MARK_2: return afterMark(b);
            case COMMA: return mark(b, place);
            case SLASH: return figure(b, place, In.L, true);
            case L: return semicolon(b);
            case SEMICOLON: return splitFigure(b, place);
            default: return splitFigure(b, place) || figures >= 2 && semicolon(b);
        }
    }

    private boolean afterMark(int b) {
        return marks < 8 && sign(b, ',', In.COMMA) || slash(b);
    }

    int genus() {
        return Integer.parseInt(words.get(0));
    }

    List<Integer> powers() {
        List<Integer> powers = new ArrayList<>();
        for (int i = 1; i <= marks; i++) {
            powers.add(Integer.parseInt(words.get(i)));
        }
        return powers;
    }

    int leafCount() {
        return Integer.parseInt(words.get(marks + 1));
    }

    Set<Integer> tree() {
        Set<Integer> tree = new TreeSet<>();
        for (int i = marks + 2; i < words.size(); i++) {
            tree.add(splitOf(words.get(i)));
        }
        return tree;
    }

    private static int splitOf(String figures) {
        Set<Integer> leaves = new TreeSet<>();
        for (char c : figures.toCharArray()) {
            leaves.add(c - '0');
        }
        return Trees.bits(leaves);
    }

    /** The place of the first figures that tell what can't be, or -1; the form is all right. */
    int cannotBe() {
        if (genus() > 2) {
            return 0;
        }
        for (int i = 1; i <= marks; i++) {
            if (Integer.parseInt(words.get(i)) > 12) {
                return places.get(i);
            }
        }
        if (!slash) {
            return -1;
        }
        if (leafCount() < 3 || leafCount() > 6) {
            return places.get(marks + 1);
        }
        Set<Integer> ahead = new TreeSet<>();
        for (int i = marks + 2; i < words.size(); i++) {
            int s = splitOf(words.get(i));
            if (!Trees.isSplit(s, leafCount()) || !Trees.fits(ahead, s)) {
                return places.get(i);
            }
            ahead.add(s);
        }
        return -1;
    }
}
