/** The desk of numbers of marked curves; ../shared/DOC.md tells what each call does. */
public final class MarkedCurves {
    public static final int BAD = -1, NOT = -2, FULL = -3, STATE = -5;
    public static final long NO = Long.MIN_VALUE;

    private static final int NOTHING_THERE = -11, ANOTHER_KIND = -12, NO_SUCH_PLACE = -13;
    private static final int SIZE_BELOW_ZERO = -14;
    private static final int NONE = -1;
    private static final int MOST_MARKS = 8, HIGHEST_POWER = 12, HIGHEST_GENUS = 2;
    private static final int FEWEST_LEAVES = 3, MOST_LEAVES = 6, MOST_SPLITS_ASKED = 9;
    private static final int HIGHEST_KAPPA = 9;
    private static final int HOLDERS = 6;

    private final Desk desk;
    private final Desk imageDesk;
    private final Deeds deeds;
    private final Numbers numbers;
    private final Tape tape;
    private final Reader reader;
    private final Speller speller;
    private final Holder[] holders;
    private boolean imageKept;

    public MarkedCurves() {
        desk = new Desk();
        imageDesk = new Desk();
        deeds = new Deeds();
        numbers = new Numbers();
        reader = new Reader();
        tape = reader.tape;
        speller = new Speller();
        holders = new Holder[HOLDERS];
        for (int h = 0; h < HOLDERS; h++) {
            holders[h] = new Holder();
        }
    }

    // ---- marks

    public int genus(int g) {
        if (g < 0 || g > HIGHEST_GENUS) {
            return BAD;
        }
        int was = desk.genus;
        desk.genus = g;
        deeds.settle(desk);
        return was;
    }

    public int mark(int d) {
        if (!isPower(d)) {
            return BAD;
        }
        if (desk.size >= MOST_MARKS) {
            return FULL;
        }
        desk.addMark(d);
        deeds.settle(desk);
        return desk.size;
    }

    public int take(int i) {
        if (!desk.hasMark(i)) {
            return BAD;
        }
        desk.dropMark(i);
        deeds.settle(desk);
        return desk.size;
    }

    public int change(int i, int d) {
        if (!desk.hasMark(i) || !isPower(d)) {
            return BAD;
        }
        int was = desk.powerAt(i);
        desk.setPower(i, d);
        deeds.settle(desk);
        return was;
    }

    public int order(int how) {
        if (how < 0 || how > 3) {
            return BAD;
        }
        if (how == 0 || how == 1) {
            desk.sortRising();
        }
        if (how == 1 || how == 2) {
            desk.turnAbout();
        }
        if (how == 3) {
            desk.putFirstLast();
        }
        int otherwise = desk.unlikePowers(deeds.present());
        deeds.settle(desk);
        return otherwise;
    }

    public int of(int i) {
        return desk.hasMark(i) ? desk.powerAt(i) : BAD;
    }

    public long number(int part) {
        if (!isPart(part)) {
            return NO;
        }
        return partOf(aboveWith(NONE, NONE, NONE), Numbers.lineOf(desk.genus), part);
    }

    public int rule() {
        return Numbers.ruleOf(keyWith(NONE, NONE, NONE));
    }

    public int met() {
        return numbers.countMet(keyWith(NONE, NONE, NONE));
    }

    public long kappa(int a, int b, int c, int part) {
        if (!isKappa(a) || !isKappa(b) || !isKappa(c) || !isPart(part)) {
            return NO;
        }
        if ((a == NONE && b != NONE) || (b == NONE && c != NONE)) {
            return NO;
        }
        long above;
        if (c != NONE) {
            above = kappaOfThree(a, b, c);
        } else if (b != NONE) {
            above = kappaOfTwo(a, b);
        } else {
            above = aboveWith(a, NONE, NONE);
        }
        return partOf(above, Numbers.lineOf(desk.genus), part);
    }

    // ---- trees

    public int leaves(int l) {
        if (!Splits.isLeafCount(l)) {
            return BAD;
        }
        int was = desk.limit;
        desk.limit = l;
        desk.tree = 0;
        deeds.settle(desk);
        return was;
    }

    public int split(int s) {
        if (!Splits.isSplit(s, desk.limit)) {
            return BAD;
        }
        if (!Splits.fits(desk.tree, s)) {
            return STATE;
        }
        desk.tree = Splits.with(desk.tree, s);
        deeds.settle(desk);
        return Splits.sizeOf(desk.tree);
    }

    public int join(int s) {
        if (!Splits.isSplit(s, desk.limit)) {
            return BAD;
        }
        if (!Splits.has(desk.tree, s)) {
            return STATE;
        }
        desk.tree = Splits.without(desk.tree, s);
        deeds.settle(desk);
        return Splits.sizeOf(desk.tree);
    }

    public int splitAt(int k) {
        if (k < 0) {
            return BAD;
        }
        int s = Splits.nth(desk.tree, k);
        return s == NONE ? NOT : s;
    }

    public int may(int s) {
        if (!Splits.isSplit(s, desk.limit)) {
            return BAD;
        }
        return Splits.fits(desk.tree, s) ? 1 : 0;
    }

    public int valence(int s) {
        if (s != 0 && !Splits.isSplit(s, desk.limit)) {
            return BAD;
        }
        if (s != 0 && !Splits.has(desk.tree, s)) {
            return STATE;
        }
        int under = Splits.under(s, desk.limit);
        int leavesAt = Integer.bitCount(Splits.leavesAt(desk.tree, under));
        // One more: the EDGE that leads up, or LEAF 0 at the ROOT.
        return leavesAt + Splits.edgesDown(desk.tree, under) + 1;
    }

    public int trees(int l, int k) {
        if (!Splits.isLeafCount(l) || !isSplitCount(k)) {
            return BAD;
        }
        return Splits.countTrees(l, k);
    }

    public int tree(int l, int k, int i, int j) {
        if (!Splits.isLeafCount(l) || !isSplitCount(k) || i < 0 || j < 0) {
            return BAD;
        }
        int s = Splits.nth(Splits.treeAt(l, k, i), j);
        return s == NONE ? NOT : s;
    }

    public int forget(int leaf) {
        if (leaf < 0 || leaf >= desk.limit) {
            return BAD;
        }
        if (desk.limit <= FEWEST_LEAVES) {
            return STATE;
        }
        desk.tree = Splits.forgetLeaf(desk.tree, desk.limit, leaf);
        desk.limit--;
        deeds.settle(desk);
        return Splits.sizeOf(desk.tree);
    }

    public long onTree() {
        if (desk.size != desk.limit) {
            return NO;
        }
        long product = numberOfNode(0);
        int nodes = Splits.sizeOf(desk.tree);
        for (int k = 0; k < nodes; k++) {
            product *= numberOfNode(Splits.nth(desk.tree, k));
        }
        return product;
    }

    // ---- deeds, texts

    public int undo() {
        if (deeds.undoable() == 0) {
            return STATE;
        }
        deeds.stepBack(desk);
        return deeds.undoable();
    }

    public int again() {
        if (deeds.repeatable() == 0) {
            return STATE;
        }
        deeds.stepOn(desk);
        return deeds.repeatable();
    }

    public int feed(int v, int n) {
        if (n < 1 || n > 4) {
            return BAD;
        }
        if (tape.size + n > Tape.MOST_BYTES) {
            return FULL;
        }
        for (int b = n - 1; b >= 0; b--) {
            tape.add((v >>> (8 * b)) & 255);
        }
        return tape.size;
    }

    public int wipe() {
        int was = tape.size;
        tape.size = 0;
        return was;
    }

    public int read() {
        int answer = reader.readOver(desk);
        tape.size = 0;
        deeds.settle(desk);
        return answer;
    }

    public int why(int i, int what) {
        if (i < 0 || i > 2 || what < 0 || what > 1) {
            return BAD;
        }
        return reader.refused ? reader.causeAt(i, what) : NOT;
    }

    public int spell(int i) {
        if (i < -1) {
            return BAD;
        }
        speller.tell(desk);
        return i == -1 ? speller.size : speller.byteAt(i);
    }

    // ---- holders, the image

    public int hold(int h, int what) {
        Holder holder = holderAt(h);
        if (holder == null || what < 0 || what > 1) {
            return BAD;
        }
        if (what == 0) {
            holder.holdNumber(number(0));
            return desk.size;
        }
        holder.holdTree(desk.tree, desk.limit);
        return Splits.sizeOf(desk.tree);
    }

    public int lose(int h) {
        Holder holder = holderAt(h);
        if (holder == null) {
            return BAD;
        }
        int was = holder.sort;
        holder.sort = Holder.NOTHING;
        return was;
    }

    public int taken(int h, int kind) {
        Holder holder = holderAt(h);
        if (holder == null || kind < 0 || kind > 3) {
            return BAD;
        }
        if (holder.sort == Holder.NOTHING) {
            return NOTHING_THERE;
        }
        return holder.isOfKind(kind) ? holder.takenFor(kind) : ANOTHER_KIND;
    }

    public int common(int h) {
        Holder holder = holderAt(h);
        int refusal = refusalOf(holder, Holder.TREE);
        if (holder == null || refusal != 0) {
            return refusal;
        }
        if (holder.limit != desk.limit) {
            return STATE;
        }
        return Splits.sizeOf(holder.tree & desk.tree);
    }

    public int row(int h, int n) {
        Holder holder = holderAt(h);
        if (holder == null || n > Holder.LONGEST_ROW) {
            return BAD;
        }
        if (n < 0) {
            return SIZE_BELOW_ZERO;
        }
        holder.holdRow(n);
        return n;
    }

    public int set(int h, int i, int v) {
        Holder holder = holderAt(h);
        int refusal = refusalOf(holder, Holder.ROW);
        if (holder == null || refusal != 0) {
            return refusal;
        }
        if (!holder.hasPlace(i)) {
            return NO_SUCH_PLACE;
        }
        holder.ints[i] = v;
        return 1;
    }

    public long get(int h, int i) {
        Holder holder = holderAt(h);
        if (holder == null || holder.sort != Holder.ROW || !holder.hasPlace(i)) {
            return NO;
        }
        return holder.ints[i];
    }

    public int judge(int h) {
        Holder holder = holderAt(h);
        int refusal = refusalOf(holder, Holder.ROW);
        if (holder == null || refusal != 0) {
            return refusal;
        }
        int place = holder.firstUnlike(desk.tree);
        return place == NONE ? NOT : place;
    }

    public int image() {
        imageDesk.copyFrom(desk);
        imageKept = true;
        return desk.size;
    }

    public int restore() {
        if (!imageKept) {
            return STATE;
        }
        desk.copyFrom(imageDesk);
        deeds.startAnew(desk);
        return desk.size;
    }

    public int count(int what) {
        switch (what) {
            case 0: return desk.genus;
            case 1: return desk.size;
            case 2: return desk.limit;
            case 3: return Splits.sizeOf(desk.tree);
            case 4: return deeds.undoable();
            case 5: return deeds.repeatable();
            case 6: return tape.size;
            default: return BAD;
        }
    }

    // ---- what the calls share

    private static boolean isPower(int d) {
        return d >= 0 && d <= HIGHEST_POWER;
    }

    private static boolean isPart(int part) {
        return part == 0 || part == 1;
    }

    private static boolean isKappa(int a) {
        return a >= NONE && a <= HIGHEST_KAPPA;
    }

    private static boolean isSplitCount(int k) {
        return k >= 0 && k <= MOST_SPLITS_ASKED;
    }

    private Holder holderAt(int h) {
        return h >= 0 && h < HOLDERS ? holders[h] : null;
    }

    /** Why a HOLDER can't be used as one of this sort, or 0 if it can. */
    private static int refusalOf(Holder holder, int sort) {
        if (holder == null) {
            return BAD;
        }
        if (holder.sort == Holder.NOTHING) {
            return NOTHING_THERE;
        }
        return holder.sort == sort ? 0 : ANOTHER_KIND;
    }

    /** The key of GENUS and MARKS with the powers a + 1, b + 1, c + 1 more (NONE: no such). */
    private long keyWith(int a, int b, int c) {
        numbers.begin();
        for (int i = 0; i < desk.size; i++) {
            numbers.add(desk.powerAt(i));
        }
        if (a != NONE) {
            numbers.add(a + 1);
        }
        if (b != NONE) {
            numbers.add(b + 1);
        }
        if (c != NONE) {
            numbers.add(c + 1);
        }
        return numbers.keyFor(desk.genus);
    }

    private long aboveWith(int a, int b, int c) {
        return numbers.aboveOf(keyWith(a, b, c));
    }

    private long kappaOfTwo(int a, int b) {
        return aboveWith(a, b, NONE) - aboveWith(a + b, NONE, NONE);
    }

    private long kappaOfThree(int a, int b, int c) {
        return aboveWith(a, b, c)
            - kappaOfTwo(a + b, c) - kappaOfTwo(a + c, b) - kappaOfTwo(b + c, a)
            - 2 * aboveWith(a + b + c, NONE, NONE);
    }

    /** A part of a fraction, in lowest terms. */
    private static long partOf(long above, long below, int part) {
        long divisor = greatestDivisor(Math.abs(above), below);
        if (divisor <= 0) {
            return NO;
        }
        return part == 0 ? above / divisor : below / divisor;
    }

    private static long greatestDivisor(long a, long b) {
        long greater = a;
        long lesser = b;
        for (int step = 0; step < 200 && lesser != 0; step++) {
            long rest = greater % lesser;
            greater = lesser;
            lesser = rest;
        }
        return greater;
    }

    /** The NUMBER of g 0 of a NODE of THE TREE (s 0: the ROOT); for g 0 it has 1 below the line. */
    private long numberOfNode(int s) {
        int under = Splits.under(s, desk.limit);
        int leavesAt = Splits.leavesAt(desk.tree, under);
        int edges = Splits.edgesDown(desk.tree, under);
        if (s == 0) {
            leavesAt |= 1;
        } else {
            edges++;
        }
        numbers.begin();
        for (int k = 0; k < desk.size; k++) {
            if (((leavesAt >> k) & 1) != 0) {
                numbers.add(desk.powerAt(k));
            }
        }
        for (int e = 0; e < edges; e++) {
            numbers.add(0);
        }
        return numbers.aboveOf(numbers.keyFor(0));
    }

    /** GENUS, MARKS, L and THE TREE: all that DEEDS change and THE IMAGE keeps. */
    private static final class Desk {
        int genus;
        int size;
        final int[] powers;
        int limit;
        /** Bit s is set if the SPLIT s (60 at most) is one of THE TREE. */
        long tree;

        Desk() {
            powers = new int[MOST_MARKS];
            limit = 4;
        }

        void copyFrom(Desk other) {
            genus = other.genus;
            size = other.size;
            for (int i = 0; i < MOST_MARKS; i++) {
                powers[i] = other.powers[i];
            }
            limit = other.limit;
            tree = other.tree;
        }

        boolean isLike(Desk other) {
            return genus == other.genus && limit == other.limit && tree == other.tree
                && size == other.size && unlikePowers(other) == 0;
        }

        int unlikePowers(Desk other) {
            int unlike = 0;
            for (int i = 0; i < size && i < other.size; i++) {
                if (powerAt(i) != other.powerAt(i)) {
                    unlike++;
                }
            }
            return unlike;
        }

        boolean hasMark(int i) {
            return i >= 0 && i < size;
        }

        int powerAt(int i) {
            return i >= 0 && i < MOST_MARKS ? powers[i] : 0;
        }

        void setPower(int i, int power) {
            if (i >= 0 && i < MOST_MARKS) {
                powers[i] = power;
            }
        }

        void addMark(int power) {
            if (size < MOST_MARKS) {
                setPower(size, power);
                size++;
            }
        }

        void dropMark(int i) {
            for (int k = i; k < size - 1; k++) {
                setPower(k, powerAt(k + 1));
            }
            size--;
        }

        void sortRising() {
            for (int end = size - 1; end > 0; end--) {
                for (int i = 0; i < end; i++) {
                    if (powerAt(i) > powerAt(i + 1)) {
                        swap(i, i + 1);
                    }
                }
            }
        }

        void turnAbout() {
            for (int i = 0; i < size / 2; i++) {
                swap(i, size - 1 - i);
            }
        }

        void putFirstLast() {
            for (int i = 0; i < size - 1; i++) {
                swap(i, i + 1);
            }
        }

        private void swap(int i, int j) {
            int power = powerAt(i);
            setPower(i, powerAt(j));
            setPower(j, power);
        }
    }

    /**
     * The desks that DEEDS led through, the present one among them: a DEED UNDONE steps back,
     * one DONE AGAIN steps on.
     */
    private static final class Deeds {
        private static final int MOST_DEEDS = 8;

        private final Desk[] desks;
        private int now;
        private int last;

        Deeds() {
            desks = new Desk[MOST_DEEDS + 1];
            for (int i = 0; i <= MOST_DEEDS; i++) {
                desks[i] = new Desk();
            }
        }

        int undoable() {
            return now;
        }

        int repeatable() {
            return last - now;
        }

        /** The desk as it was before the call that is under way. */
        Desk present() {
            return now >= 0 && now <= MOST_DEEDS ? desks[now] : desks[0];
        }

        /** Takes what a call has done for a DEED, if the desk is otherwise by it. */
        void settle(Desk desk) {
            if (desk.isLike(present())) {
                return;
            }
            if (now >= MOST_DEEDS) {
                dropOldest();
            }
            now++;
            last = now;
            present().copyFrom(desk);
        }

        void stepBack(Desk desk) {
            if (now > 0) {
                now--;
            }
            desk.copyFrom(present());
        }

        void stepOn(Desk desk) {
            if (now < last) {
                now++;
            }
            desk.copyFrom(present());
        }

        void startAnew(Desk desk) {
            now = 0;
            last = 0;
            desks[0].copyFrom(desk);
        }

        private void dropOldest() {
            Desk oldest = desks[0];
            for (int i = 0; i < MOST_DEEDS; i++) {
                desks[i] = desks[i + 1];
            }
            desks[MOST_DEEDS] = oldest;
            now--;
        }
    }

    /**
     * NUMBERS by the three rules. A key tells g and powers in whatever order: four bits for each
     * power 0 .. 14, how often it is there, and g above them; 0 tells a NUMBER that is 0 by the
     * first two words. MARKS and KAPPA together have 11 powers at most, so 14 is the highest power
     * with which a NUMBER is not 0 so. All NUMBERS of one g have one line in common (lineOf), so
     * what is above it is all that is kept.
     */
    private static final class Numbers {
        static final int BASE = 1, STRING = 2, DILATON = 3;

        private static final int HIGHEST = 14, DEEPEST = 16, GENUS_SHIFT = 60;
        /** Some 700 NUMBERS can be met in all; twice as many slots would only cost room. */
        private static final int SLOTS = 1024, SLOT_SHIFT = 54;
        private static final long SCATTER = 0x9E3779B97F4A7C15L;
        private static final long GENUS_1 = 1L << GENUS_SHIFT, GENUS_2 = 2L << GENUS_SHIFT;
        private static final long POWERS_000 = 3L;
        private static final long POWER_1 = 1L << 4;
        private static final long POWER_4 = 1L << 16;
        private static final long POWERS_2_3 = (1L << 8) + (1L << 12);
        private static final long POWERS_2_2_2 = 3L << 8;

        private final long[] keys;
        private final long[] aboves;
        private final int[] rounds;
        private int round;
        private int size;
        private int sum;
        private long gathered;

        Numbers() {
            keys = new long[SLOTS];
            aboves = new long[SLOTS];
            rounds = new int[SLOTS];
        }

        static long lineOf(int genus) {
            if (genus == 0) {
                return 1;
            }
            return genus == 1 ? 24 : 5760;
        }

        void begin() {
            size = 0;
            sum = 0;
            gathered = 0;
        }

        void add(int power) {
            size++;
            sum += power;
            if (power >= 0 && power <= HIGHEST) {
                gathered += 1L << (4 * power);
            }
        }

        long keyFor(int genus) {
            if (2 * genus - 2 + size <= 0 || sum != 3 * genus - 3 + size) {
                return 0;
            }
            return ((long) genus << GENUS_SHIFT) + gathered;
        }

        static int ruleOf(long key) {
            if (key == 0) {
                return 0;
            }
            if (baseOf(key) != 0) {
                return BASE;
            }
            return timesThere(key, 0) > 0 ? STRING : DILATON;
        }

        /** What is above the line lineOf, or 0 if BASE does not tell it. */
        private static long baseOf(long key) {
            if (key == POWERS_000 || key == GENUS_1 + POWER_1) {
                return 1;
            }
            if (key == GENUS_2 + POWER_4) {
                return 5;
            }
            if (key == GENUS_2 + POWERS_2_3) {
                return 29;
            }
            return key == GENUS_2 + POWERS_2_2_2 ? 168 : 0;
        }

        private static int timesThere(long key, int power) {
            return (int) ((key >>> (4 * power)) & 15);
        }

        /** The key of the NUMBER that comes up by a rule at a power (1 .. 14), or 0. */
        private static long nextKey(long key, int rule, int power) {
            long one = 1L << (4 * power);
            if (rule == STRING && timesThere(key, power) > 0) {
                return key - 1 - one + (one >>> 4);
            }
            return rule == DILATON && power == 1 ? key - one : 0;
        }

        /** How many times the NUMBER of nextKey goes into that of the key. */
        private static long weightOf(long key, int rule, int power) {
            if (rule == STRING) {
                return timesThere(key, power);
            }
            int marks = 0;
            for (int p = 0; p <= HIGHEST; p++) {
                marks += timesThere(key, p);
            }
            return 2 * (key >>> GENUS_SHIFT) - 2 + marks - 1;
        }

        /** What the NUMBER of a key has above the line lineOf. */
        long aboveOf(long key) {
            return workOut(key, 0);
        }

        /** Each step has one power less, so the depth stays below that of eleven powers. */
        private long workOut(long key, int depth) {
            if (key == 0 || depth > DEEPEST) {
                return 0;
            }
            int slot = slotOf(key);
            if (slot != NONE && keys[slot] == key) {
                return aboves[slot];
            }
            int rule = ruleOf(key);
            long above = baseOf(key);
            for (int power = 1; power <= HIGHEST; power++) {
                long next = nextKey(key, rule, power);
                if (next != 0) {
                    above += weightOf(key, rule, power) * workOut(next, depth + 1);
                }
            }
            keep(key, above);
            return above;
        }

        /** How many NUMBERS are MET from a key, that of the key among them. */
        int countMet(long key) {
            workOut(key, 0);
            round++;
            return meet(key, 0);
        }

        /** How many NUMBERS are met from a key that this round has not met before. */
        private int meet(long key, int depth) {
            if (key == 0 || depth > DEEPEST) {
                return 0;
            }
            int slot = slotOf(key);
            if (slot == NONE || keys[slot] != key || rounds[slot] == round) {
                return 0;
            }
            rounds[slot] = round;
            int rule = ruleOf(key);
            int met = 1;
            for (int power = 1; power <= HIGHEST; power++) {
                met += meet(nextKey(key, rule, power), depth + 1);
            }
            return met;
        }

        private void keep(long key, long above) {
            int slot = slotOf(key);
            if (slot != NONE) {
                keys[slot] = key;
                aboves[slot] = above;
            }
        }

        /** The slot that a key has or can have, or NONE if all are others'. */
        private int slotOf(long key) {
            int slot = (int) ((key * SCATTER) >>> SLOT_SHIFT) & (SLOTS - 1);
            for (int tries = 0; tries < SLOTS; tries++) {
                if (keys[slot] == key || keys[slot] == 0) {
                    return slot;
                }
                slot = (slot + 1) & (SLOTS - 1);
            }
            return NONE;
        }
    }

    /** SPLITS and TREES: a TREE is told by the bits of its SPLITS, as Desk tells it. */
    private static final class Splits {
        /** No bit of a TREE is above HIGHEST, no SPLIT below LEAST. */
        private static final int HIGHEST = 63, LEAST = 2;

        static boolean isLeafCount(int l) {
            return l >= FEWEST_LEAVES && l <= MOST_LEAVES;
        }

        static boolean isSplit(int s, int limit) {
            if (!isLeafCount(limit) || s <= 0 || s >= (1 << limit) || (s & 1) != 0) {
                return false;
            }
            int leafCount = Integer.bitCount(s);
            return leafCount >= 2 && leafCount <= limit - 2;
        }

        static boolean has(long tree, int s) {
            return s >= 0 && s <= HIGHEST && ((tree >>> s) & 1L) != 0;
        }

        static long with(long tree, int s) {
            return s >= 0 && s <= HIGHEST ? tree | (1L << s) : tree;
        }

        static long without(long tree, int s) {
            return s >= 0 && s <= HIGHEST ? tree & ~(1L << s) : tree;
        }

        static int sizeOf(long tree) {
            return Long.bitCount(tree);
        }

        /** The k-th SPLIT, rising, or NONE. */
        static int nth(long tree, int k) {
            if (k < 0 || k >= Long.bitCount(tree)) {
                return NONE;
            }
            long rest = tree;
            for (int lesser = 0; lesser < k; lesser++) {
                rest &= rest - 1;
            }
            // Left is the k-th bit and what is above; as many bits are below it as its number tells.
            return Long.bitCount((rest & -rest) - 1);
        }

        static boolean isWithin(int s, int t) {
            return (s & t) == s;
        }

        private static boolean goTogether(int s, int t) {
            int both = s & t;
            return both == 0 || both == s || both == t;
        }

        /** Whether a SPLIT is not in a TREE and GOES TOGETHER with all of it. */
        static boolean fits(long tree, int s) {
            int size = sizeOf(tree);
            for (int k = 0; k < size; k++) {
                int t = nth(tree, k);
                if (s == t || !goTogether(s, t)) {
                    return false;
                }
            }
            return true;
        }

        /** All LEAVES under a NODE (s 0: the ROOT). */
        static int under(int s, int limit) {
            return s == 0 ? (1 << limit) - 2 : s;
        }

        /** The SPLITS of a TREE that are within a NODE that has these LEAVES under it. */
        private static long lesserWithin(long tree, int under) {
            long lesser = 0;
            int size = sizeOf(tree);
            for (int k = 0; k < size; k++) {
                int t = nth(tree, k);
                if (t != under && isWithin(t, under)) {
                    lesser = with(lesser, t);
                }
            }
            return lesser;
        }

        /** The LEAVES at a NODE, but for LEAF 0. */
        static int leavesAt(long tree, int under) {
            long lesser = lesserWithin(tree, under);
            int left = under;
            int size = sizeOf(lesser);
            for (int k = 0; k < size; k++) {
                left &= ~nth(lesser, k);
            }
            return left;
        }

        /** How many EDGES at a NODE lead down. */
        static int edgesDown(long tree, int under) {
            long lesser = lesserWithin(tree, under);
            int edges = 0;
            int size = sizeOf(lesser);
            for (int k = 0; k < size; k++) {
                if (isOutermost(lesser, nth(lesser, k))) {
                    edges++;
                }
            }
            return edges;
        }

        private static boolean isOutermost(long lesser, int s) {
            int size = sizeOf(lesser);
            for (int k = 0; k < size; k++) {
                int t = nth(lesser, k);
                if (t != s && isWithin(s, t)) {
                    return false;
                }
            }
            return true;
        }

        static int countTrees(int limit, int k) {
            return countMore(limit, k, 0L, LEAST);
        }

        /** How many TREES a TREE becomes by k more SPLITS, none below from (an even number). */
        private static int countMore(int limit, int k, long tree, int from) {
            if (k <= 0) {
                return 1;
            }
            // No TREE has more; without this the depth would have no bound of its own.
            if (sizeOf(tree) + k > limit - 3) {
                return 0;
            }
            int found = 0;
            for (int s = from; s < (1 << limit); s += 2) {
                if (isSplit(s, limit) && fits(tree, s)) {
                    found += countMore(limit, k - 1, with(tree, s), s + 2);
                }
            }
            return found;
        }

        /** The i-th TREE with k SPLITS; one without SPLITS if there are not as many. */
        static long treeAt(int limit, int k, int i) {
            long tree = 0;
            int from = LEAST;
            int ahead = i;
            for (int more = k - 1; more >= 0; more--) {
                boolean found = false;
                for (int s = from; s < (1 << limit) && !found; s += 2) {
                    if (!isSplit(s, limit) || !fits(tree, s)) {
                        continue;
                    }
                    int trees = countMore(limit, more, with(tree, s), s + 2);
                    if (ahead < trees) {
                        tree = with(tree, s);
                        from = s + 2;
                        found = true;
                    } else {
                        ahead -= trees;
                    }
                }
                if (!found) {
                    return 0;
                }
            }
            return tree;
        }

        static long forgetLeaf(long tree, int limit, int leaf) {
            long left = 0;
            int size = sizeOf(tree);
            for (int k = 0; k < size; k++) {
                int s = leftWithout(nth(tree, k), limit, leaf);
                if (isSplit(s, limit - 1)) {
                    left = with(left, s);
                }
            }
            return left;
        }

        private static int leftWithout(int s, int limit, int leaf) {
            int lower = s & ((1 << leaf) - 1);
            int upper = (s >> (leaf + 1)) << leaf;
            int left = lower | upper;
            int all = (1 << (limit - 1)) - 1;
            return (left & 1) != 0 ? all ^ left : left;
        }
    }

    /** THE TAPE. */
    private static final class Tape {
        static final int MOST_BYTES = 60;

        private final int[] bytes;
        int size;

        Tape() {
            bytes = new int[MOST_BYTES];
        }

        void add(int b) {
            if (size < MOST_BYTES) {
                bytes[size] = b;
                size++;
            }
        }

        /** The byte at a place, or NONE behind the last one. */
        int byteAt(int i) {
            return i >= 0 && i < size && i < MOST_BYTES ? bytes[i] : NONE;
        }

        boolean isFigure(int i) {
            int b = byteAt(i);
            return b >= '0' && b <= '9';
        }

        int figureAt(int i) {
            return byteAt(i) - '0';
        }

        int firstOf(char sign, int end) {
            for (int i = 0; i < end; i++) {
                if (byteAt(i) == sign) {
                    return i;
                }
            }
            return NONE;
        }

        int timesAhead(char sign, int end) {
            int times = 0;
            for (int i = 0; i < end; i++) {
                if (byteAt(i) == sign) {
                    times++;
                }
            }
            return times;
        }
    }

    /** Reads THE TAPE, which it holds, as a TEXT and keeps WHY. */
    private static final class Reader {
        private static final int SORT_TEXT = 1, SORT_GENUS = 2, SORT_MARKS = 3, SORT_L = 4;
        private static final int SORT_SPLITS = 5, SORT_FORM = 6, SORT_CANNOT_BE = 7;
        private static final int LAYERS = 3, MOST_SPLITS = 3, MOST_FIGURES = 4;

        final Tape tape;
        private final Desk told;
        private final int[] causes;
        /** Whether there is a WHY. */
        boolean refused;
        private int place;
        private int cannotBe;

        Reader() {
            tape = new Tape();
            told = new Desk();
            causes = new int[2 * LAYERS];
        }

        int causeAt(int layer, int what) {
            int i = 2 * layer + what;
            return i >= 0 && i < 2 * LAYERS ? causes[i] : BAD;
        }

        /** Puts what THE TAPE tells on a desk: how many MARKS there are, or where it is WRONG. */
        int readOver(Desk desk) {
            told.copyFrom(desk);
            place = 0;
            cannotBe = NONE;
            if (!readText()) {
                keepWhy(SORT_FORM, place);
                return -1000 - place;
            }
            if (cannotBe != NONE) {
                keepWhy(SORT_CANNOT_BE, cannotBe);
                return -2000 - cannotBe;
            }
            desk.copyFrom(told);
            return desk.size;
        }

        // Each of these tells whether the form was as told; where not, place is where it is WRONG.

        private boolean readText() {
            if (!readGenus() || !readSign(':') || !readMarks()) {
                return false;
            }
            if (readSign('/') && !(readLeafCount() && readSplits())) {
                return false;
            }
            return place == tape.size;
        }

        private boolean readSign(char sign) {
            if (tape.byteAt(place) != sign) {
                return false;
            }
            place++;
            return true;
        }

        private boolean readGenus() {
            if (!tape.isFigure(place)) {
                return false;
            }
            told.genus = tape.figureAt(place);
            if (told.genus > HIGHEST_GENUS) {
                noteCannotBe(place);
            }
            place++;
            return true;
        }

        private boolean readMarks() {
            told.size = 0;
            boolean more = tape.isFigure(place);
            for (int m = 0; m < MOST_MARKS && more; m++) {
                if (!tape.isFigure(place)) {
                    return false;
                }
                readPower();
                // A , behind the last MARK that there can be is left: no TEXT goes on with it.
                more = m < MOST_MARKS - 1 && readSign(',');
            }
            return true;
        }

        private void readPower() {
            int first = place;
            int power = tape.figureAt(place);
            place++;
            if (tape.isFigure(place)) {
                power = 10 * power + tape.figureAt(place);
                place++;
            }
            if (power > HIGHEST_POWER) {
                noteCannotBe(first);
            }
            told.addMark(power);
        }

        private boolean readLeafCount() {
            if (!tape.isFigure(place)) {
                return false;
            }
            told.limit = tape.figureAt(place);
            told.tree = 0;
            if (!Splits.isLeafCount(told.limit)) {
                noteCannotBe(place);
            }
            place++;
            return true;
        }

        private boolean readSplits() {
            for (int k = 0; k < MOST_SPLITS && readSign(';'); k++) {
                if (!readSplit()) {
                    return false;
                }
            }
            return true;
        }

        private boolean readSplit() {
            int first = place;
            int highest = NONE;
            int s = 0;
            for (int m = 0; m < MOST_FIGURES && tape.isFigure(place); m++) {
                if (tape.figureAt(place) <= highest) {
                    break;
                }
                highest = tape.figureAt(place);
                s |= 1 << highest;
                place++;
            }
            if (place - first < 2) {
                return false;
            }
            if (Splits.isSplit(s, told.limit) && Splits.fits(told.tree, s)) {
                told.tree = Splits.with(told.tree, s);
            } else {
                noteCannotBe(first);
            }
            return true;
        }

        private void noteCannotBe(int where) {
            if (cannotBe == NONE) {
                cannotBe = where;
            }
        }

        private void keepWhy(int how, int where) {
            refused = true;
            causes[0] = SORT_TEXT;
            causes[1] = tape.size;
            causes[2] = sortOf(where);
            causes[3] = signsAhead(causes[2], where);
            causes[4] = how;
            causes[5] = where;
        }

        private int sortOf(int where) {
            if (where == 0) {
                return SORT_GENUS;
            }
            int slash = tape.firstOf('/', where);
            if (slash == NONE) {
                return SORT_MARKS;
            }
            return where == slash + 1 ? SORT_L : SORT_SPLITS;
        }

        private int signsAhead(int sort, int where) {
            if (sort == SORT_MARKS) {
                return tape.timesAhead(',', where);
            }
            return sort == SORT_SPLITS ? tape.timesAhead(';', where) : 0;
        }
    }

    /** Writes the TEXT that tells a desk. */
    private static final class Speller {
        /** The longest TEXT: eight MARKS of two figures, SPLITS of two, three and four LEAVES. */
        private static final int MOST_BYTES = 39;

        private final int[] bytes;
        int size;

        Speller() {
            bytes = new int[MOST_BYTES];
        }

        /** The byte at a place, or NOT behind the last one. */
        int byteAt(int i) {
            return i >= 0 && i < size && i < MOST_BYTES ? bytes[i] : NOT;
        }

        void tell(Desk desk) {
            size = 0;
            addFigure(desk.genus);
            addByte(':');
            for (int i = 0; i < desk.size; i++) {
                if (i > 0) {
                    addByte(',');
                }
                addPower(desk.powerAt(i));
            }
            addByte('/');
            addFigure(desk.limit);
            int splits = Splits.sizeOf(desk.tree);
            for (int k = 0; k < splits; k++) {
                addSplit(Splits.nth(desk.tree, k));
            }
        }

        private void addPower(int power) {
            if (power >= 10) {
                addFigure(power / 10);
            }
            addFigure(power % 10);
        }

        private void addSplit(int s) {
            addByte(';');
            for (int k = 0; k < MOST_LEAVES; k++) {
                if (((s >> k) & 1) != 0) {
                    addFigure(k);
                }
            }
        }

        private void addFigure(int figure) {
            addByte('0' + figure);
        }

        private void addByte(int b) {
            if (size < MOST_BYTES) {
                bytes[size] = b;
                size++;
            }
        }
    }

    /** A HOLDER. */
    private static final class Holder {
        static final int NOTHING = 0, NUMBER = 1, TREE = 2, ROW = 3;
        static final int LONGEST_ROW = 20;

        private static final int KIND_NUMBER = 0, KIND_TREE = 1, KIND_FULL_TREE = 2, KIND_STAR = 3;
        private static final long MODULUS = 1000003;

        int sort;
        long tree;
        int limit;
        final int[] ints;
        private long above;
        private int size;

        Holder() {
            ints = new int[LONGEST_ROW];
        }

        void holdNumber(long numberAbove) {
            sort = NUMBER;
            above = numberAbove;
        }

        void holdTree(long held, int heldLimit) {
            sort = TREE;
            tree = held;
            limit = heldLimit;
        }

        void holdRow(int n) {
            sort = ROW;
            size = n;
            for (int i = 0; i < LONGEST_ROW; i++) {
                ints[i] = 0;
            }
        }

        boolean hasPlace(int i) {
            return i >= 0 && i < size && i < LONGEST_ROW;
        }

        boolean isOfKind(int kind) {
            if (kind == KIND_NUMBER) {
                return sort == NUMBER;
            }
            if (sort != TREE) {
                return false;
            }
            switch (kind) {
                case KIND_TREE: return true;
                case KIND_FULL_TREE: return isFullTree();
                case KIND_STAR: return tree == 0 && !isFullTree();
                default: return false;
            }
        }

        int takenFor(int kind) {
            switch (kind) {
                case KIND_NUMBER: return (int) Math.floorMod(above, MODULUS);
                case KIND_TREE: return Splits.sizeOf(tree);
                default: return limit;
            }
        }

        /** Whether the ROW tells the SPLITS of a TREE: the first place that is otherwise, or NONE. */
        int firstUnlike(long other) {
            int splits = Splits.sizeOf(other);
            int places = Math.max(size, splits);
            for (int i = 0; i < places; i++) {
                if (i >= splits || !hasPlace(i) || ints[i] != Splits.nth(other, i)) {
                    return i;
                }
            }
            return NONE;
        }

        /** L less 3 SPLITS are the most that GO TOGETHER, and only with these each VALENCE is 3. */
        private boolean isFullTree() {
            return Splits.sizeOf(tree) == limit - 3;
        }
    }
}
