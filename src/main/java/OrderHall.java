/**
 * Finite orders told by arcs: a cycle, or the order with what lies between; its chains and
 * antichains, how much so many of them hold together, and which sets are such; the linear orders
 * that keep it, counted, told by number and numbered; meets and joins, sums of signs, dual orders
 * and parts of orders.
 *
 * <p>Elements are 0 .. n - 1; a set of elements is a number with bit x for element x.
 */
public final class OrderHall {
    public static final int NONE = -1;

    private static final int MOST_ELEMENTS = 14;
    private static final int CHAINS = 0;
    private static final int ANTICHAINS = 1;
    private static final int LAST_SET = 4;
    private static final int LAST_COUNT = 6;

    private final Arcs arcs;
    private final Ring ring;
    private final Order order;
    private final Bounds bounds;
    private final Held held;
    private final Line line;
    private final Parts parts;
    private boolean settled;

    public OrderHall() {
        arcs = new Arcs();
        ring = new Ring();
        order = new Order();
        bounds = new Bounds(order);
        held = new Held(order);
        line = new Line(order);
        parts = new Parts(order);
    }

    public void begin(int n) throws IllegalArgumentException {
        if (n < 1 || n > MOST_ELEMENTS) {
            throw new IllegalArgumentException("the elements are 1 to 14");
        }
        unsettle();
        arcs.clear(n);
    }

    public int arc(int a, int b) throws IndexOutOfBoundsException {
        wantElement(a, arcs.n);
        wantElement(b, arcs.n);
        unsettle();
        return arcs.add(a, b) ? 1 : 0;
    }

    public int drop(int a, int b) throws IndexOutOfBoundsException {
        wantElement(a, arcs.n);
        wantElement(b, arcs.n);
        unsettle();
        return arcs.remove(a, b) ? 1 : 0;
    }

    public int settle() {
        unsettle();
        ring.seek(arcs);
        if (ring.length == 0) {
            adopt();
        }
        return ring.length;
    }

    public int cycle(int i) {
        return i >= 0 && i < ring.length ? ring.element[i] : NONE;
    }

    public int compare(int a, int b) throws IllegalStateException, IndexOutOfBoundsException {
        wantSettled();
        wantElement(a, order.n);
        wantElement(b, order.n);
        if (a == b) {
            return 0;
        }
        if (has(order.above[a], b)) {
            return -1;
        }
        return has(order.below[a], b) ? 1 : 2;
    }

    public int set(int x, int what)
            throws IllegalStateException, IndexOutOfBoundsException, IllegalArgumentException {
        wantSettled();
        wantElement(x, order.n);
        wantUpTo(what, LAST_SET);
        switch (what) {
            case 0:
                return order.below[x];
            case 1:
                return order.above[x];
            case 2:
                return order.ends(order.below[x], order.above);
            case 3:
                return order.ends(order.above[x], order.below);
            default:
                return order.apart[x];
        }
    }

    public int level(int x, int way)
            throws IllegalStateException, IndexOutOfBoundsException, IllegalArgumentException {
        wantSettled();
        wantElement(x, order.n);
        wantUpTo(way, 1);
        return way == 0 ? order.rise[x] : order.fall[x];
    }

    public int count(int what) throws IllegalStateException, IllegalArgumentException {
        wantSettled();
        wantUpTo(what, LAST_COUNT);
        switch (what) {
            case 0:
                return order.height();
            case 1:
                held.measure();
                return held.size[ANTICHAINS][1];
            case 2:
                return order.n;
            case 3:
                return order.pairs();
            case 4:
                return order.coverPairs();
            case 5:
                // Each such set is told by the antichain of its greatest elements, and each
                // antichain tells one.
                held.measure();
                return held.antichains;
            default:
                held.measure();
                return held.widest;
        }
    }

    public int antichain(int way) throws IllegalStateException, IllegalArgumentException {
        wantSettled();
        wantUpTo(way, 1);
        held.measure();
        return order.ends(held.inWidest, way == 0 ? order.above : order.below);
    }

    public int most(int kind, int k) throws IllegalStateException, IllegalArgumentException {
        wantSettled();
        wantUpTo(kind, 1);
        wantUpTo(k, MOST_ELEMENTS);
        held.measure();
        return held.size[kind][k];
    }

    public int first(int kind, int k) throws IllegalStateException, IllegalArgumentException {
        wantSettled();
        wantUpTo(kind, 1);
        wantUpTo(k, MOST_ELEMENTS);
        held.measure();
        return held.set[kind][k];
    }

    public int chains(int m) throws IllegalStateException, IllegalArgumentException {
        wantSettled();
        wantUpTo(m, MOST_ELEMENTS);
        return order.chainsOf(m);
    }

    public long sequences() throws IllegalStateException {
        wantSettled();
        return line.total();
    }

    public void take(long number) throws IllegalStateException, IllegalArgumentException {
        wantSettled();
        if (number < 0 || number >= line.total()) {
            throw new IllegalArgumentException("there is no sequence with this number");
        }
        line.write(number);
    }

    public int at(int i) {
        return line.there && i >= 0 && i < order.n ? line.element[i] : NONE;
    }

    public int exchange(int i) {
        if (!line.there || i < 0 || i >= order.n - 1) {
            return 0;
        }
        return line.swap(i) ? 1 : 0;
    }

    public long number() {
        return line.there ? line.rank() : NONE;
    }

    public int bound(int kind, int a, int b)
            throws IllegalStateException, IndexOutOfBoundsException, IllegalArgumentException {
        wantSettled();
        wantElement(a, order.n);
        wantElement(b, order.n);
        wantUpTo(kind, 1);
        return kind == 0 ? bounds.lower(a, b) : bounds.upper(a, b);
    }

    public int lattice() throws IllegalStateException {
        wantSettled();
        if (!bounds.complete()) {
            return 0;
        }
        return bounds.distributive() ? 2 : 1;
    }

    public int sign(int a, int b) throws IllegalStateException, IndexOutOfBoundsException {
        wantSettled();
        wantElement(a, order.n);
        wantElement(b, order.n);
        return order.signOf(a, b);
    }

    public void turn() throws IllegalStateException {
        wantSettled();
        unsettle();
        arcs.reverse();
        adopt();
    }

    public int keep(int set) throws IllegalStateException, IllegalArgumentException {
        wantSettled();
        if (set <= 0 || set > order.everything()) {
            throw new IllegalArgumentException("not a set of one or more of the elements");
        }
        unsettle();
        arcs.restrict(order, set);
        adopt();
        return order.n;
    }

    public int check() throws IllegalStateException {
        wantSettled();
        held.measure();
        return parts.suffice(held, CHAINS) && parts.suffice(held, ANTICHAINS) ? 1 : 0;
    }

    private void wantSettled() {
        if (!settled) {
            throw new IllegalStateException("the order is not settled");
        }
    }

    private static void wantElement(int x, int n) {
        if (x < 0 || x >= n) {
            throw new IndexOutOfBoundsException("there is no such element");
        }
    }

    private static void wantUpTo(int value, int last) {
        if (value < 0 || value > last) {
            throw new IllegalArgumentException("not one of the numbers that have a meaning here");
        }
    }

    private void unsettle() {
        settled = false;
        ring.length = 0;
        line.there = false;
    }

    /** Takes over the order that the arcs tell; they have no cycle. */
    private void adopt() {
        order.learn(arcs);
        held.measured = false;
        line.counted = false;
        settled = true;
    }

    private static boolean has(int set, int x) {
        return (set >> x & 1) != 0;
    }

    /** The elements, and the arcs as they were told. */
    private static final class Arcs {
        int n = 1;
        final int[] next = new int[MOST_ELEMENTS];

        void clear(int elements) {
            n = elements;
            for (int x = 0; x < MOST_ELEMENTS; x++) {
                next[x] = 0;
            }
        }

        boolean add(int a, int b) {
            boolean fresh = !has(next[a], b);
            next[a] |= 1 << b;
            return fresh;
        }

        boolean remove(int a, int b) {
            boolean there = has(next[a], b);
            next[a] &= ~(1 << b);
            return there;
        }

        /** From where one arc leads into the set. */
        int into(int set) {
            int found = 0;
            for (int x = 0; x < n; x++) {
                if ((next[x] & set) != 0) {
                    found |= 1 << x;
                }
            }
            return found;
        }

        void reverse() {
            for (int a = 0; a < n; a++) {
                for (int b = 0; b < a; b++) {
                    if (has(next[a], b) != has(next[b], a)) {
                        next[a] ^= 1 << b;
                        next[b] ^= 1 << a;
                    }
                }
            }
        }

        /** An arc for each two of the set that the order compares, the set numbered anew. */
        void restrict(Order order, int set) {
            clear(Integer.bitCount(set));
            for (int x = 0; x < order.n; x++) {
                if (has(set, x)) {
                    next[numberIn(set, x)] = renumbered(order.above[x] & set, set, order.n);
                }
            }
        }

        private static int numberIn(int set, int x) {
            return Integer.bitCount(set & ((1 << x) - 1));
        }

        private static int renumbered(int some, int set, int n) {
            int result = 0;
            for (int x = 0; x < n; x++) {
                if (has(some, x)) {
                    result |= 1 << numberIn(set, x);
                }
            }
            return result;
        }
    }

    /** THE CYCLE. */
    private static final class Ring {
        int length = 0;
        final int[] element = new int[MOST_ELEMENTS];
        // back[i]: from where i arcs, one behind the other, lead to the start
        private final int[] back = new int[MOST_ELEMENTS + 1];

        void seek(Arcs arcs) {
            length = 0;
            int start = 0;
            for (int x = 0; x < arcs.n; x++) {
                int limit = length == 0 ? arcs.n : length - 1;
                int steps = stepsRound(arcs, x, limit);
                if (steps > 0) {
                    length = steps;
                    start = x;
                }
            }
            if (length > 0) {
                write(arcs, start);
            }
        }

        /** How few arcs lead from start to start; 0 when it takes more than the limit. */
        private int stepsRound(Arcs arcs, int start, int limit) {
            back[0] = 1 << start;
            for (int i = 1; i <= limit; i++) {
                back[i] = arcs.into(back[i - 1]);
                if (has(back[i], start)) {
                    return i;
                }
            }
            return 0;
        }

        // No closed way is shorter than length, so this one meets no element twice; and start is
        // the least element on any as short, so it is the least one of its cycle.
        private void write(Arcs arcs, int start) {
            stepsRound(arcs, start, length);
            int x = start;
            for (int i = 0; i < length; i++) {
                element[i] = x;
                x = least(arcs.next[x] & back[length - 1 - i]);
            }
        }

        /** The least element of a set that has one. */
        private static int least(int set) {
            for (int x = 0; x < MOST_ELEMENTS; x++) {
                if (has(set, x)) {
                    return x;
                }
            }
            return 0;
        }
    }

    /** The order that the arcs tell. */
    private static final class Order {
        int n = 1;
        final int[] below = new int[MOST_ELEMENTS];
        final int[] above = new int[MOST_ELEMENTS];
        final int[] apart = new int[MOST_ELEMENTS];
        // how many elements the largest chain has that ends (begins) with x
        final int[] rise = new int[MOST_ELEMENTS];
        final int[] fall = new int[MOST_ELEMENTS];
        // the elements, each one behind all that are < it
        private final int[] sorted = new int[MOST_ELEMENTS];
        private final int[] row = new int[MOST_ELEMENTS];

        void learn(Arcs arcs) {
            n = arcs.n;
            closeAbove(arcs);
            for (int x = 0; x < n; x++) {
                below[x] = belowOf(x);
                apart[x] = everything() & ~(above[x] | below[x] | 1 << x);
            }
            sort();
            measureLevels();
        }

        int everything() {
            return (1 << n) - 1;
        }

        private void closeAbove(Arcs arcs) {
            for (int x = 0; x < n; x++) {
                above[x] = arcs.next[x];
            }
            for (int via = 0; via < n; via++) {
                for (int x = 0; x < n; x++) {
                    if (has(above[x], via)) {
                        above[x] |= above[via];
                    }
                }
            }
        }

        private int belowOf(int x) {
            int found = 0;
            for (int y = 0; y < n; y++) {
                if (has(above[y], x)) {
                    found |= 1 << y;
                }
            }
            return found;
        }

        // What is < a is also < b when a < b, and a itself is: b has more below it.
        private void sort() {
            int end = 0;
            for (int size = 0; size < n; size++) {
                for (int x = 0; x < n; x++) {
                    if (Integer.bitCount(below[x]) == size) {
                        sorted[end] = x;
                        end++;
                    }
                }
            }
        }

        private void measureLevels() {
            for (int i = 0; i < n; i++) {
                rise[sorted[i]] = 1 + greatest(rise, below[sorted[i]]);
            }
            for (int i = n - 1; i >= 0; i--) {
                fall[sorted[i]] = 1 + greatest(fall, above[sorted[i]]);
            }
        }

        private int greatest(int[] values, int set) {
            int result = 0;
            for (int x = 0; x < n; x++) {
                if (has(set, x)) {
                    result = Math.max(result, values[x]);
                }
            }
            return result;
        }

        private int sum(int[] values, int set) {
            int result = 0;
            for (int x = 0; x < n; x++) {
                if (has(set, x)) {
                    result += values[x];
                }
            }
            return result;
        }

        int height() {
            return greatest(rise, everything());
        }

        /** Those of the set that have none of it beyond them: beyond is above or below. */
        int ends(int set, int[] beyond) {
            int found = 0;
            for (int x = 0; x < n; x++) {
                if (has(set, x) && (beyond[x] & set) == 0) {
                    found |= 1 << x;
                }
            }
            return found;
        }

        int pairs() {
            int found = 0;
            for (int x = 0; x < n; x++) {
                found += Integer.bitCount(below[x]);
            }
            return found;
        }

        int coverPairs() {
            int found = 0;
            for (int x = 0; x < n; x++) {
                found += Integer.bitCount(ends(below[x], above));
            }
            return found;
        }

        /** How many chains have m elements. */
        int chainsOf(int m) {
            if (m == 0) {
                return 1;
            }
            for (int x = 0; x < n; x++) {
                row[x] = 1;
            }
            for (int length = 2; length <= m; length++) {
                // from the last one on, so that what stands below is still of the length before
                for (int i = n - 1; i >= 0; i--) {
                    row[sorted[i]] = sum(row, below[sorted[i]]);
                }
            }
            return sum(row, everything());
        }

        int signOf(int a, int b) {
            for (int i = 0; i < n; i++) {
                int c = sorted[i];
                row[c] = has(above[a], c) ? -sum(row, below[c]) : 0;
                if (c == a) {
                    row[c] = 1;
                }
            }
            return row[b];
        }
    }

    /** Meets and joins. */
    private static final class Bounds {
        private final Order order;
        private final int[][] meet = new int[MOST_ELEMENTS][MOST_ELEMENTS];
        private final int[][] join = new int[MOST_ELEMENTS][MOST_ELEMENTS];

        Bounds(Order order) {
            this.order = order;
        }

        int lower(int a, int b) {
            return beyondAll(common(order.below, a, b), order.below);
        }

        int upper(int a, int b) {
            return beyondAll(common(order.above, a, b), order.above);
        }

        private static int common(int[] rows, int a, int b) {
            return (rows[a] | 1 << a) & (rows[b] | 1 << b);
        }

        /** The element of the set that has all its others in its row. */
        private int beyondAll(int set, int[] rows) {
            for (int x = 0; x < order.n; x++) {
                if (has(set, x) && (set & ~(rows[x] | 1 << x)) == 0) {
                    return x;
                }
            }
            return NONE;
        }

        /** Whether all pairs have a meet and a join. */
        boolean complete() {
            for (int a = 0; a < order.n; a++) {
                for (int b = 0; b < order.n; b++) {
                    meet[a][b] = lower(a, b);
                    join[a][b] = upper(a, b);
                    if (meet[a][b] == NONE || join[a][b] == NONE) {
                        return false;
                    }
                }
            }
            return true;
        }

        /** Asked only behind complete(), which writes the meets and joins. */
        boolean distributive() {
            for (int a = 0; a < order.n; a++) {
                for (int b = 0; b < order.n; b++) {
                    for (int c = 0; c < order.n; c++) {
                        if (meet[a][join[b][c]] != join[meet[a][b]][meet[a][c]]) {
                            return false;
                        }
                    }
                }
            }
            return true;
        }
    }

    /** What k chains or k antichains hold, and the largest antichains. */
    private static final class Held {
        boolean measured = false;
        // by kind and k: the MOST and the FIRST
        final int[][] size = new int[2][MOST_ELEMENTS + 1];
        final int[][] set = new int[2][MOST_ELEMENTS + 1];
        int antichains = 0;
        int widest = 0;
        int inWidest = 0;
        private final Order order;
        // by set: how many elements the largest antichain (or chain) in it has
        private final byte[] largest = new byte[1 << MOST_ELEMENTS];

        Held(Order order) {
            this.order = order;
        }

        void measure() {
            if (measured) {
                return;
            }
            measureKind(CHAINS);
            measureKind(ANTICHAINS);
            countAntichains();
            measured = true;
        }

        // A set is a union of k chains just when no antichain in it has more than k elements
        // (Dilworth), and of k antichains just when no chain in it has (Mirsky).
        private void measureKind(int kind) {
            for (int x = 0; x < order.n; x++) {
                extendLargest(x, kind == CHAINS ? order.apart[x] : order.below[x] | order.above[x]);
            }
            noteFirsts(size[kind], set[kind]);
            spreadFirsts(size[kind], set[kind]);
        }

        /** The sets with x as their greatest number: the largest one has x, or it has it not. */
        private void extendLargest(int x, int fellows) {
            int bit = 1 << x;
            for (int rest = 0; rest < bit; rest++) {
                int without = largest[rest];
                int with = 1 + largest[rest & fellows];
                largest[rest | bit] = (byte) Math.max(without, with);
            }
        }

        /** For each k the first of the largest sets that need just k. */
        private void noteFirsts(int[] sizes, int[] sets) {
            for (int k = 0; k <= MOST_ELEMENTS; k++) {
                sizes[k] = 0;
                sets[k] = 0;
            }
            for (int some = 1; some <= order.everything(); some++) {
                int k = largest[some];
                int elements = Integer.bitCount(some);
                if (elements > sizes[k]) {
                    sizes[k] = elements;
                    sets[k] = some;
                }
            }
        }

        // What fewer hold, k hold too. One more holds at least one element more till all are held,
        // so no two that are as large stand here against one another.
        private void spreadFirsts(int[] sizes, int[] sets) {
            for (int k = 1; k <= MOST_ELEMENTS; k++) {
                if (sizes[k - 1] > sizes[k]) {
                    sizes[k] = sizes[k - 1];
                    sets[k] = sets[k - 1];
                }
            }
        }

        /** Wants the largest chains in largest: an antichain is a set without chains of two. */
        private void countAntichains() {
            antichains = 0;
            widest = 0;
            inWidest = 0;
            for (int some = 0; some <= order.everything(); some++) {
                if (largest[some] <= 1) {
                    antichains++;
                    if (Integer.bitCount(some) == size[ANTICHAINS][1]) {
                        widest++;
                        inWidest |= some;
                    }
                }
            }
        }
    }

    /** The sequences that keep the order, and the one that is there. */
    private static final class Line {
        boolean counted = false;
        boolean there = false;
        final int[] element = new int[MOST_ELEMENTS];
        private final Order order;
        // by set: in how many ways the other elements can follow it; 0 when it can't stand first
        private final long[] ways = new long[1 << MOST_ELEMENTS];

        Line(Order order) {
            this.order = order;
        }

        long total() {
            if (!counted) {
                countWays();
                counted = true;
            }
            return ways[0];
        }

        private void countWays() {
            int all = order.everything();
            ways[all] = 1;
            for (int placed = all - 1; placed >= 0; placed--) {
                ways[placed] = waysBehind(placed);
            }
        }

        private long waysBehind(int placed) {
            long sum = 0;
            for (int x = 0; x < order.n; x++) {
                boolean ready = (order.below[x] & ~placed) == 0;
                if (has(placed, x)) {
                    if (!ready) {
                        return 0;
                    }
                } else if (ready) {
                    sum += ways[placed | 1 << x];
                }
            }
            return sum;
        }

        /** Writes the sequence with a number from 0 to total() - 1. */
        void write(long number) {
            int placed = 0;
            long left = number;
            for (int i = 0; i < order.n; i++) {
                for (int x = 0; x < order.n; x++) {
                    long many = waysWith(placed, x);
                    if (left < many) {
                        element[i] = x;
                        placed |= 1 << x;
                        break;
                    }
                    left -= many;
                }
            }
            there = true;
        }

        /** How many sequences go on with x behind those placed. */
        private long waysWith(int placed, int x) {
            return has(placed, x) ? 0 : ways[placed | 1 << x];
        }

        /** The number of the sequence that is there. */
        long rank() {
            int placed = 0;
            long before = 0;
            for (int i = 0; i < order.n; i++) {
                for (int x = 0; x < element[i]; x++) {
                    before += waysWith(placed, x);
                }
                placed |= 1 << element[i];
            }
            return before;
        }

        /** Exchanges the elements at i and i + 1, two places of the sequence, if they are apart. */
        boolean swap(int i) {
            int a = element[i];
            int b = element[i + 1];
            if (!has(order.apart[a], b)) {
                return false;
            }
            element[i] = b;
            element[i + 1] = a;
            return true;
        }
    }

    /** Partitions of all elements into chains, or into antichains. */
    private static final class Parts {
        private final Order order;
        private final int[] size = new int[MOST_ELEMENTS];
        private int made = 0;
        // the chains while they are made: the one behind x in its chain, and the one before it
        private final int[] behind = new int[MOST_ELEMENTS];
        private final int[] before = new int[MOST_ELEMENTS];
        private final int[] reached = new int[MOST_ELEMENTS];
        private final int[] queue = new int[MOST_ELEMENTS + 1];

        Parts(Order order) {
            this.order = order;
        }

        /**
         * Whether for each k some partition that is found here bounds what k of the other kind
         * hold. Beyond n elements no k differs from n.
         */
        boolean suffice(Held held, int kind) {
            int found = 0;
            for (int many = 0; many <= order.n; many++) {
                split(kind, held.set[kind][many]);
                for (int k = 1; k <= order.n; k++) {
                    if (together(k) == held.size[1 - kind][k]) {
                        found |= 1 << k;
                    }
                }
            }
            return found == order.everything() << 1;
        }

        /** The parts' elements, but of each part at most k. */
        private int together(int k) {
            int sum = 0;
            for (int i = 0; i < made; i++) {
                sum += Math.min(size[i], k);
            }
            return sum;
        }

        /** The set in as few parts of the kind as there can be, and each other element alone. */
        private void split(int kind, int set) {
            made = 0;
            if (kind == CHAINS) {
                linkChains(set);
                cutChains(set);
            } else {
                cutLayers(set);
            }
            int others = order.n - Integer.bitCount(set);
            for (int i = 0; i < others; i++) {
                addPart(1);
            }
        }

        private void addPart(int elements) {
            if (made < MOST_ELEMENTS) {
                size[made] = elements;
                made++;
            }
        }

        private void cutLayers(int set) {
            int rest = set;
            for (int i = 0; i < order.n && rest != 0; i++) {
                int layer = order.ends(rest, order.below);
                addPart(Integer.bitCount(layer));
                rest &= ~layer;
            }
        }

        private void cutChains(int set) {
            for (int x = 0; x < order.n; x++) {
                if (has(set, x) && before[x] == NONE) {
                    addPart(chainFrom(x));
                }
            }
        }

        private int chainFrom(int x) {
            int elements = 1;
            int y = behind[x];
            for (int i = 0; i < order.n && y != NONE; i++) {
                elements++;
                y = behind[y];
            }
            return elements;
        }

        // Chains are as few as the links from an element to the one behind it are many: a largest
        // matching, grown by one augmenting path for each element.
        private void linkChains(int set) {
            for (int x = 0; x < order.n; x++) {
                behind[x] = NONE;
                before[x] = NONE;
            }
            for (int x = 0; x < order.n; x++) {
                if (has(set, x)) {
                    linkOn(x, set);
                }
            }
        }

        /** Gives x one behind it, if others that are linked can take others in turn. */
        private void linkOn(int x, int set) {
            int open = set;
            int end = 1;
            queue[0] = x;
            for (int i = 0; i < order.n && i < end; i++) {
                int a = queue[i];
                for (int b = 0; b < order.n; b++) {
                    if (has(order.above[a] & open, b)) {
                        open &= ~(1 << b);
                        reached[b] = a;
                        if (before[b] == NONE) {
                            relink(b);
                            return;
                        }
                        queue[end] = before[b];
                        end++;
                    }
                }
            }
        }

        /** Links b to where it was reached from, and so on back along the path. */
        private void relink(int last) {
            int b = last;
            for (int i = 0; i < order.n && b != NONE; i++) {
                int a = reached[b];
                int lost = behind[a];
                behind[a] = b;
                before[b] = a;
                b = lost;
            }
        }
    }
}
