import java.util.ArrayList;
import java.util.HashMap;
import java.util.List;
import java.util.Map;

/**
 * The document's face once more, as a model for tests: each answer is found by the words of the
 * document, by trying out, in other ways than the hall finds it where the words alone take too
 * long for 14 elements.
 */
final class PlainHall {
    private int n = 1;
    private boolean[][] arc = new boolean[1][1];
    private boolean settled = false;
    private List<Integer> cycle = List.of();
    private List<Integer> sequence = null;

    // what is known of the order, found when it is first asked for
    private boolean[][] less;
    private boolean[][] is; // by kind (0 chains, 1 antichains) and set
    private int[][] need; // by kind and set: how few make the set
    private Map<Integer, Long> ways;

    // ---- arcs

    void begin(int elements) {
        argument(elements >= 1 && elements <= 14);
        n = elements;
        arc = new boolean[n][n];
        changed();
    }

    int arc(int a, int b) {
        return tell(a, b, true);
    }

    int drop(int a, int b) {
        return tell(a, b, false);
    }

    private int tell(int a, int b, boolean there) {
        element(a);
        element(b);
        int answer = arc[a][b] == there ? 0 : 1;
        arc[a][b] = there;
        changed();
        return answer;
    }

    private void changed() {
        settled = false;
        cycle = List.of();
        sequence = null;
    }

    int settle() {
        changed();
        for (int length = 1; length <= n && cycle.isEmpty(); length++) {
            for (int start = 0; start < n && cycle.isEmpty(); start++) {
                List<Integer> path = new ArrayList<>(List.of(start));
                if (closes(path, length)) {
                    cycle = path;
                }
            }
        }
        settled = cycle.isEmpty();
        if (settled) {
            find();
        }
        return cycle.size();
    }

    /** Makes the path a cycle of a length whose least element is its first, the first such one. */
    private boolean closes(List<Integer> path, int length) {
        int last = path.get(path.size() - 1);
        if (path.size() == length) {
            return arc[last][path.get(0)];
        }
        for (int y = path.get(0) + 1; y < n; y++) {
            if (arc[last][y] && !path.contains(y)) {
                path.add(y);
                if (closes(path, length)) {
                    return true;
                }
                path.remove(path.size() - 1);
            }
        }
        return false;
    }

    int cycle(int i) {
        return i >= 0 && i < cycle.size() ? cycle.get(i) : -1;
    }

    private void find() {
        less = new boolean[n][n];
        for (int a = 0; a < n; a++) {
            reach(a, a);
        }
        is = null;
        need = null;
        ways = new HashMap<>();
        ways.put(0, 1L);
    }

    private void reach(int a, int x) {
        for (int y = 0; y < n; y++) {
            if (arc[x][y] && !less[a][y]) {
                less[a][y] = true;
                reach(a, y);
            }
        }
    }

    // ---- what is wanted

    private void order() {
        if (!settled) {
            throw new IllegalStateException();
        }
    }

    private void element(int x) {
        if (x < 0 || x >= n) {
            throw new IndexOutOfBoundsException();
        }
    }

    private static void argument(boolean good) {
        if (!good) {
            throw new IllegalArgumentException();
        }
    }

    // ---- two elements, or one

    int compare(int a, int b) {
        order();
        element(a);
        element(b);
        return a == b ? 0 : less[a][b] ? -1 : less[b][a] ? 1 : 2;
    }

    private boolean covers(int b, int a) {
        for (int c = 0; c < n; c++) {
            if (less[a][c] && less[c][b]) {
                return false;
            }
        }
        return less[a][b];
    }

    int set(int x, int what) {
        order();
        element(x);
        argument(what >= 0 && what <= 4);
        int result = 0;
        for (int y = 0; y < n; y++) {
            boolean apart = x != y && !less[x][y] && !less[y][x];
            boolean[] in = {less[y][x], less[x][y], covers(x, y), covers(y, x), apart};
            result += in[what] ? 1 << y : 0;
        }
        return result;
    }

    int level(int x, int way) {
        order();
        element(x);
        argument(way == 0 || way == 1);
        int best = 0;
        for (int s = 0; s < 1 << n; s++) {
            boolean last = has(s, x) && (s & set(x, 1 - way)) == 0;
            best = last && is(0, s) ? Math.max(best, Integer.bitCount(s)) : best;
        }
        return best;
    }

    // ---- sets

    private static boolean has(int set, int x) {
        return (set >> x & 1) == 1;
    }

    private boolean is(int kind, int set) {
        if (is == null) {
            is = new boolean[2][1 << n];
            is[0][0] = true;
            is[1][0] = true;
            for (int s = 1; s < 1 << n; s++) {
                int x = Integer.numberOfTrailingZeros(s);
                int others = s & ~(1 << x);
                is[0][s] = is[0][others] && (others & set(x, 4)) == 0;
                is[1][s] = is[1][others] && (others & ~set(x, 4)) == 0;
            }
        }
        return is[kind][set];
    }

    private int largest(int kind) {
        int best = 0;
        for (int s = 0; s < 1 << n; s++) {
            best = is(kind, s) ? Math.max(best, Integer.bitCount(s)) : best;
        }
        return best;
    }

    private List<Integer> widest() {
        int width = largest(1);
        List<Integer> found = new ArrayList<>();
        for (int s = 0; s < 1 << n; s++) {
            if (is(1, s) && Integer.bitCount(s) == width) {
                found.add(s);
            }
        }
        return found;
    }

    int count(int what) {
        order();
        argument(what >= 0 && what <= 6);
        switch (what) {
            case 0:
            case 1:
                return largest(what);
            case 2:
                return n;
            case 5:
                return downSets();
            case 6:
                return widest().size();
            default:
                int found = 0;
                for (int x = 0; x < n; x++) {
                    found += Integer.bitCount(set(x, what == 3 ? 0 : 2));
                }
                return found;
        }
    }

    private int downSets() {
        int found = 0;
        for (int s = 0; s < 1 << n; s++) {
            boolean whole = true;
            for (int x = 0; x < n && whole; x++) {
                whole = !has(s, x) || (set(x, 0) & ~s) == 0;
            }
            found += whole ? 1 : 0;
        }
        return found;
    }

    int antichain(int way) {
        order();
        argument(way == 0 || way == 1);
        for (int s : widest()) {
            boolean beyond = true;
            for (int other : widest()) {
                for (int x = 0; x < n; x++) {
                    int reached = set(x, 1 - way) | 1 << x;
                    beyond &= !has(other, x) || (reached & s) != 0;
                }
            }
            if (beyond) {
                return s;
            }
        }
        throw new RuntimeException("there is just one, says the document");
    }

    private void needs(int kind, int k) {
        order();
        argument(kind == 0 || kind == 1);
        argument(k >= 0 && k <= 14);
        if (need == null) {
            is(0, 0);
            need = new int[][] {needOf(is[0]), needOf(is[1])};
        }
    }

    /** One of the parts has the least element: it is taken away in all ways. */
    private int[] needOf(boolean[] part) {
        int[] result = new int[1 << n];
        for (int s = 1; s < 1 << n; s++) {
            int least = Integer.lowestOneBit(s);
            int others = s - least;
            result[s] = 15;
            for (int t = others; t >= 0; t = t == 0 ? -1 : t - 1 & others) {
                if (part[t + least]) {
                    result[s] = Math.min(result[s], 1 + result[others - t]);
                }
            }
        }
        return result;
    }

    int most(int kind, int k) {
        needs(kind, k);
        int best = 0;
        for (int s = 0; s < 1 << n; s++) {
            best = need[kind][s] <= k ? Math.max(best, Integer.bitCount(s)) : best;
        }
        return best;
    }

    int first(int kind, int k) {
        int most = most(kind, k);
        int s = 0;
        while (need[kind][s] > k || Integer.bitCount(s) != most) {
            s++;
        }
        return s;
    }

    int chains(int m) {
        order();
        argument(m >= 0 && m <= 14);
        int found = 0;
        for (int s = 0; s < 1 << n; s++) {
            found += is(0, s) && Integer.bitCount(s) == m ? 1 : 0;
        }
        return found;
    }

    // ---- sequences

    /** How many sequences of a set keep the order. */
    private long waysOf(int set) {
        Long known = ways.get(set);
        if (known != null) {
            return known;
        }
        long sum = 0;
        for (int x = 0; x < n; x++) {
            sum += leads(x, set) ? waysOf(set - (1 << x)) : 0;
        }
        ways.put(set, sum);
        return sum;
    }

    private boolean leads(int x, int set) {
        return has(set, x) && (set(x, 0) & set) == 0;
    }

    long sequences() {
        order();
        return waysOf((1 << n) - 1);
    }

    void take(long number) {
        order();
        argument(number >= 0 && number < sequences());
        List<Integer> found = new ArrayList<>();
        long left = number;
        int set = (1 << n) - 1;
        while (set != 0) {
            int x = 0;
            while (!leads(x, set) || left >= waysOf(set - (1 << x))) {
                left -= leads(x, set) ? waysOf(set - (1 << x)) : 0;
                x++;
            }
            found.add(x);
            set -= 1 << x;
        }
        sequence = found;
    }

    int at(int i) {
        return sequence != null && i >= 0 && i < n ? sequence.get(i) : -1;
    }

    int exchange(int i) {
        if (sequence == null || i < 0 || i > n - 2 || compare(at(i), at(i + 1)) != 2) {
            return 0;
        }
        sequence.add(i, sequence.remove(i + 1));
        return 1;
    }

    long number() {
        if (sequence == null) {
            return -1;
        }
        long before = 0;
        int set = (1 << n) - 1;
        for (int placed : sequence) {
            for (int x = 0; x < placed; x++) {
                before += leads(x, set) ? waysOf(set - (1 << x)) : 0;
            }
            set -= 1 << placed;
        }
        return before;
    }

    // ---- meets, joins and signs

    int bound(int kind, int a, int b) {
        order();
        element(a);
        element(b);
        argument(kind == 0 || kind == 1);
        int both = (set(a, kind) | 1 << a) & (set(b, kind) | 1 << b);
        for (int x = 0; x < n; x++) {
            if (has(both, x) && both == (both & set(x, kind) | 1 << x)) {
                return x;
            }
        }
        return -1;
    }

    int lattice() {
        order();
        int result = 2;
        for (int i = 0; i < n * n; i++) {
            if (bound(0, i / n, i % n) == -1 || bound(1, i / n, i % n) == -1) {
                return 0;
            }
        }
        for (int a = 0; a < n; a++) {
            for (int b = 0; b < n; b++) {
                for (int c = 0; c < n; c++) {
                    int one = bound(0, a, bound(1, b, c));
                    int other = bound(1, bound(0, a, b), bound(0, a, c));
                    result = one == other ? result : 1;
                }
            }
        }
        return result;
    }

    /** By chains: those from a to b with an odd number of elements less those with an even one. */
    int sign(int a, int b) {
        order();
        element(a);
        element(b);
        if (a == b) {
            return 1;
        }
        int between = set(a, 1) & set(b, 0);
        int sum = 0;
        for (int s = between; s >= 0 && less[a][b]; s = s == 0 ? -1 : s - 1 & between) {
            sum += !is(0, s) ? 0 : Integer.bitCount(s) % 2 == 0 ? -1 : 1;
        }
        return sum;
    }

    // ---- other orders

    void turn() {
        order();
        boolean[][] turned = new boolean[n][n];
        for (int i = 0; i < n * n; i++) {
            turned[i / n][i % n] = arc[i % n][i / n];
        }
        arc = turned;
        settle();
    }

    int keep(int set) {
        order();
        argument(set >= 1 && set < 1 << n);
        List<Integer> kept = new ArrayList<>();
        for (int x = 0; x < n; x++) {
            if (has(set, x)) {
                kept.add(x);
            }
        }
        n = kept.size();
        arc = new boolean[n][n];
        for (int i = 0; i < n * n; i++) {
            arc[i / n][i % n] = less[kept.get(i / n)][kept.get(i % n)];
        }
        settle();
        return n;
    }

    /** The partitions are there for every order, as Greene and Kleitman have shown. */
    int check() {
        order();
        return 1;
    }
}
