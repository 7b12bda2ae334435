import java.util.ArrayList;
import java.util.List;
import java.util.Random;

/**
 * Compares the hall with the document's definitions, written down as they stand and tried out over
 * all sets, cycles, sequences and partitions: on all sets of arcs of up to four elements, and on
 * some of five to seven.
 */
public final class DefinitionTest {
    private static int wrong = 0;
    private static long compared = 0;

    private static void due(String what, Model m, long got, long want) {
        compared++;
        if (got != want) {
            wrong++;
            if (wrong <= 50) {
                System.out.println(m.told() + what + " answered " + got + ", due is " + want);
            }
        }
    }

    /** The definitions, as plain as they can be written. */
    private static final class Model {
        final int n;
        final boolean[][] arc;
        boolean[][] less;
        List<int[]> sequences;

        Model(int n) {
            this.n = n;
            arc = new boolean[n][n];
        }

        String told() {
            StringBuilder text = new StringBuilder("n " + n + ", arcs");
            for (int a = 0; a < n; a++) {
                for (int b = 0; b < n; b++) {
                    if (arc[a][b]) {
                        text.append(" ").append(a).append(">").append(b);
                    }
                }
            }
            return text.append(": ").toString();
        }

        // ---- cycles

        int[] cycle() {
            int[][] best = new int[1][];
            for (int s = 0; s < n; s++) {
                walk(new int[n], 0, s, best);
            }
            return best[0];
        }

        private void walk(int[] path, int length, int x, int[][] best) {
            for (int i = 0; i < length; i++) {
                if (path[i] == x) {
                    return;
                }
            }
            if (length > 0 && x < path[0]) {
                return;
            }
            path[length] = x;
            if (arc[x][path[0]]) {
                int[] found = java.util.Arrays.copyOf(path, length + 1);
                if (best[0] == null || before(found, best[0])) {
                    best[0] = found;
                }
            }
            for (int y = 0; y < n; y++) {
                if (arc[x][y] && length + 1 < n) {
                    walk(path, length + 1, y, best);
                }
            }
        }

        private static boolean before(int[] p, int[] q) {
            return p.length != q.length ? p.length < q.length : java.util.Arrays.compare(p, q) < 0;
        }

        // ---- the order

        void order() {
            less = new boolean[n][n];
            for (int a = 0; a < n; a++) {
                reach(a, a);
            }
            sequences = new ArrayList<>();
            permute(new int[n], 0);
        }

        private void reach(int a, int x) {
            for (int y = 0; y < n; y++) {
                if (arc[x][y] && !less[a][y]) {
                    less[a][y] = true;
                    reach(a, y);
                }
            }
        }

        boolean apart(int a, int b) {
            return a != b && !less[a][b] && !less[b][a];
        }

        boolean covers(int b, int a) {
            boolean found = less[a][b];
            for (int c = 0; c < n; c++) {
                found &= !(less[a][c] && less[c][b]);
            }
            return found;
        }

        int set(int x, int what) {
            int result = 0;
            for (int y = 0; y < n; y++) {
                boolean[] in = {less[y][x], less[x][y], covers(x, y), covers(y, x), apart(x, y)};
                result |= in[what] ? 1 << y : 0;
            }
            return result;
        }

        // ---- chains and antichains

        boolean isChain(int set) {
            return allPairs(set, false);
        }

        boolean isAntichain(int set) {
            return allPairs(set, true);
        }

        boolean is(int kind, int set) {
            return kind == 0 ? isChain(set) : isAntichain(set);
        }

        private boolean allPairs(int set, boolean apart) {
            for (int a = 0; a < n; a++) {
                for (int b = 0; b < a; b++) {
                    if ((set >> a & set >> b & 1) != 0 && apart(a, b) != apart) {
                        return false;
                    }
                }
            }
            return true;
        }

        int level(int x, int way) {
            int best = 0;
            for (int s = 0; s < 1 << n; s++) {
                if ((s >> x & 1) != 0 && isChain(s) && (s & set(x, 1 - way)) == 0) {
                    best = Math.max(best, Integer.bitCount(s));
                }
            }
            return best;
        }

        int largest(int kind) {
            int best = 0;
            for (int s = 0; s < 1 << n; s++) {
                best = is(kind, s) ? Math.max(best, Integer.bitCount(s)) : best;
            }
            return best;
        }

        List<Integer> widest() {
            List<Integer> found = new ArrayList<>();
            int width = largest(1);
            for (int s = 0; s < 1 << n; s++) {
                if (isAntichain(s) && Integer.bitCount(s) == width) {
                    found.add(s);
                }
            }
            return found;
        }

        int count(int what) {
            int pairs = 0;
            int covering = 0;
            for (int a = 0; a < n; a++) {
                for (int b = 0; b < n; b++) {
                    pairs += less[a][b] ? 1 : 0;
                    covering += covers(a, b) ? 1 : 0;
                }
            }
            int[] result = {largest(0), largest(1), n, pairs, covering, downSets(), widest().size()};
            return result[what];
        }

        private int downSets() {
            int found = 0;
            for (int s = 0; s < 1 << n; s++) {
                boolean closed = true;
                for (int x = 0; x < n; x++) {
                    closed &= (s >> x & 1) == 0 || (set(x, 0) & ~s) == 0;
                }
                found += closed ? 1 : 0;
            }
            return found;
        }

        int extreme(int way) {
            int result = -1;
            for (int h : widest()) {
                boolean good = true;
                for (int s : widest()) {
                    for (int x = 0; x < n; x++) {
                        int reached = 1 << x | set(x, 1 - way);
                        good &= (s >> x & 1) == 0 || (reached & h) != 0;
                    }
                }
                if (good) {
                    result = h;
                }
            }
            return result;
        }

        /** By k: which sets are unions of k chains or antichains. */
        boolean[][] unions(int kind) {
            boolean[][] held = new boolean[15][1 << n];
            held[0][0] = true;
            for (int k = 1; k < 15; k++) {
                for (int s = 0; s < 1 << n; s++) {
                    for (int c = 0; c < 1 << n && held[k - 1][s]; c++) {
                        held[k][s | c] |= is(kind, c);
                    }
                }
            }
            return held;
        }

        int firstOf(boolean[] sets) {
            int best = 0;
            for (int s = 0; s < 1 << n; s++) {
                if (sets[s] && Integer.bitCount(s) > Integer.bitCount(best)) {
                    best = s;
                }
            }
            return best;
        }

        int chains(int m) {
            int found = 0;
            for (int s = 0; s < 1 << n; s++) {
                found += isChain(s) && Integer.bitCount(s) == m ? 1 : 0;
            }
            return found;
        }

        // ---- sequences

        private void permute(int[] row, int length) {
            if (length == n) {
                if (keeps(row)) {
                    sequences.add(row.clone());
                }
                return;
            }
            for (int x = 0; x < n; x++) {
                boolean fresh = true;
                for (int i = 0; i < length; i++) {
                    fresh &= row[i] != x;
                }
                if (fresh) {
                    row[length] = x;
                    permute(row, length + 1);
                }
            }
        }

        private boolean keeps(int[] row) {
            for (int i = 0; i < n; i++) {
                for (int j = 0; j < i; j++) {
                    if (less[row[i]][row[j]]) {
                        return false;
                    }
                }
            }
            return true;
        }

        int numberOf(int[] row) {
            for (int i = 0; i < sequences.size(); i++) {
                if (java.util.Arrays.equals(sequences.get(i), row)) {
                    return i;
                }
            }
            return -1;
        }

        // ---- meets, joins, signs

        private boolean upTo(int a, int b, int kind) {
            return a == b || (kind == 0 ? less[a][b] : less[b][a]);
        }

        int bound(int kind, int a, int b) {
            for (int m = 0; m < n; m++) {
                boolean good = upTo(m, a, kind) && upTo(m, b, kind);
                for (int o = 0; o < n; o++) {
                    good &= !(upTo(o, a, kind) && upTo(o, b, kind)) || upTo(o, m, kind);
                }
                if (good) {
                    return m;
                }
            }
            return -1;
        }

        int lattice() {
            int result = 2;
            for (int a = 0; a < n; a++) {
                for (int b = 0; b < n; b++) {
                    if (bound(0, a, b) == -1 || bound(1, a, b) == -1) {
                        return 0;
                    }
                }
            }
            for (int a = 0; a < n; a++) {
                for (int b = 0; b < n; b++) {
                    for (int c = 0; c < n; c++) {
                        int left = bound(0, a, bound(1, b, c));
                        result = left == bound(1, bound(0, a, b), bound(0, a, c)) ? result : 1;
                    }
                }
            }
            return result;
        }

        int sign(int a, int b) {
            if (a == b) {
                return 1;
            }
            int sum = 0;
            for (int c = 0; c < n && less[a][b]; c++) {
                sum -= upTo(a, c, 0) && less[c][b] ? sign(a, c) : 0;
            }
            return sum;
        }

        // ---- other orders

        Model turned() {
            Model m = new Model(n);
            for (int a = 0; a < n; a++) {
                for (int b = 0; b < n; b++) {
                    m.arc[b][a] = arc[a][b];
                }
            }
            return m;
        }

        Model kept(int set) {
            Model m = new Model(Integer.bitCount(set));
            for (int a = 0, i = 0; a < n; a++) {
                if ((set >> a & 1) != 0) {
                    for (int b = 0, j = 0; b < n; b++) {
                        if ((set >> b & 1) != 0) {
                            m.arc[i][j++] = less[a][b];
                        }
                    }
                    i++;
                }
            }
            return m;
        }

        // ---- partitions

        /** By k: the least sum of the parts' elements, but of each at most k, over all partitions. */
        void leastSums(int kind, int rest, int[] sizes, int parts, int[] least) {
            if (rest == 0) {
                for (int k = 1; k <= n; k++) {
                    int sum = 0;
                    for (int i = 0; i < parts; i++) {
                        sum += sizes[i] > k ? k : sizes[i];
                    }
                    least[k] = Math.min(least[k], sum);
                }
                return;
            }
            int lowest = rest & -rest;
            for (int s = rest; s != 0; s = s - 1 & rest) {
                if ((s & lowest) != 0 && is(kind, s)) {
                    sizes[parts] = Integer.bitCount(s);
                    leastSums(kind, rest & ~s, sizes, parts + 1, least);
                }
            }
        }

        int check(int[][] most) {
            for (int kind = 0; kind < 2; kind++) {
                int[] least = new int[n + 1];
                java.util.Arrays.fill(least, n);
                leastSums(kind, (1 << n) - 1, new int[n], 0, least);
                for (int k = 1; k <= n; k++) {
                    if (least[k] != most[1 - kind][k]) {
                        return 0;
                    }
                }
            }
            return 1;
        }
    }

    private static void compareOrder(OrderHall x, Model m) {
        m.order();
        int n = m.n;
        for (int a = 0; a < n; a++) {
            for (int b = 0; b < n; b++) {
                int want = a == b ? 0 : m.less[a][b] ? -1 : m.less[b][a] ? 1 : 2;
                due("compare(" + a + ", " + b + ")", m, x.compare(a, b), want);
                due("sign(" + a + ", " + b + ")", m, x.sign(a, b), m.sign(a, b));
                due("bound(0, " + a + ", " + b + ")", m, x.bound(0, a, b), m.bound(0, a, b));
                due("bound(1, " + a + ", " + b + ")", m, x.bound(1, a, b), m.bound(1, a, b));
            }
            for (int what = 0; what < 5; what++) {
                due("set(" + a + ", " + what + ")", m, x.set(a, what), m.set(a, what));
            }
            due("level(" + a + ", 0)", m, x.level(a, 0), m.level(a, 0));
            due("level(" + a + ", 1)", m, x.level(a, 1), m.level(a, 1));
        }
        for (int what = 0; what < 7; what++) {
            due("count(" + what + ")", m, x.count(what), m.count(what));
        }
        due("antichain(0)", m, x.antichain(0), m.extreme(0));
        due("antichain(1)", m, x.antichain(1), m.extreme(1));
        due("lattice()", m, x.lattice(), m.lattice());
        for (int k = 0; k < 15; k++) {
            due("chains(" + k + ")", m, x.chains(k), m.chains(k));
        }
        compareHeld(x, m);
        compareSequences(x, m);
    }

    private static void compareHeld(OrderHall x, Model m) {
        int[][] most = new int[2][15];
        for (int kind = 0; kind < 2; kind++) {
            boolean[][] unions = m.unions(kind);
            for (int k = 0; k < 15; k++) {
                int first = m.firstOf(unions[k]);
                most[kind][k] = Integer.bitCount(first);
                due("first(" + kind + ", " + k + ")", m, x.first(kind, k), first);
                due("most(" + kind + ", " + k + ")", m, x.most(kind, k), most[kind][k]);
            }
        }
        due("check()", m, x.check(), m.check(most));
    }

    private static void compareSequences(OrderHall x, Model m) {
        due("sequences()", m, x.sequences(), m.sequences.size());
        int step = 1 + m.sequences.size() / 40;
        for (int number = 0; number < m.sequences.size(); number += step) {
            int[] row = m.sequences.get(number).clone();
            x.take(number);
            due("number()", m, x.number(), number);
            int place = number % m.n;
            boolean can = place + 1 < m.n && m.apart(row[place], row[place + 1]);
            due("exchange(" + place + ")", m, x.exchange(place), can ? 1 : 0);
            if (can) {
                int a = row[place];
                row[place] = row[place + 1];
                row[place + 1] = a;
            }
            for (int i = 0; i < m.n; i++) {
                due("at(" + i + ")", m, x.at(i), row[i]);
            }
            due("number() behind exchange", m, x.number(), m.numberOf(row));
        }
    }

    private static void compareArcs(OrderHall x, Model m) {
        for (int a = 0; a < m.n; a++) {
            for (int b = 0; b < m.n; b++) {
                due("arc " + a + " to " + b, m, x.drop(a, b), m.arc[a][b] ? 1 : 0);
            }
        }
    }

    private static OrderHall told(Model m) {
        OrderHall x = new OrderHall();
        x.begin(m.n);
        tell(x, m);
        return x;
    }

    private static void tell(OrderHall x, Model m) {
        for (int a = 0; a < m.n; a++) {
            for (int b = 0; b < m.n; b++) {
                if (m.arc[a][b]) {
                    x.arc(a, b);
                }
            }
        }
    }

    private static void compareAll(OrderHall x, Model m, int set) {
        int[] cycle = m.cycle();
        due("settle()", m, x.settle(), cycle == null ? 0 : cycle.length);
        for (int i = -1; i <= m.n; i++) {
            boolean there = cycle != null && i >= 0 && i < cycle.length;
            due("cycle(" + i + ")", m, x.cycle(i), there ? cycle[i] : -1);
        }
        if (cycle != null) {
            return;
        }
        compareOrder(x, m);
        Model turned = m.turned();
        x.turn();
        compareOrder(x, turned);
        due("keep(" + set + ")", turned, x.keep(set), Integer.bitCount(set));
        Model kept = turned.kept(set);
        compareOrder(x, kept);
        compareArcs(x, kept);
    }

    private static void allArcs(int n) {
        for (int code = 0; code < 1 << n * n; code++) {
            Model m = new Model(n);
            for (int i = 0; i < n * n; i++) {
                m.arc[i / n][i % n] = (code >> i & 1) != 0;
            }
            compareAll(told(m), m, 1 + code * 7 % ((1 << n) - 1));
        }
    }

    private static Model some(Random random, int n, boolean cyclic) {
        Model m = new Model(n);
        int[] place = new int[n];
        for (int i = 0; i < n; i++) {
            int j = random.nextInt(i + 1);
            place[i] = place[j];
            place[j] = i;
        }
        int often = 5 + random.nextInt(60);
        for (int a = 0; a < n; a++) {
            for (int b = 0; b < n; b++) {
                boolean may = cyclic || place[a] < place[b];
                m.arc[a][b] = may && random.nextInt(100) < often;
            }
        }
        return m;
    }

    private static void someArcs(int n, int tries) {
        Random random = new Random(n);
        for (int i = 0; i < tries; i++) {
            Model m = some(random, n, i % 4 == 0);
            compareAll(told(m), m, 1 + random.nextInt((1 << n) - 1));
        }
    }

    /** One hall for many orders: nothing of an order may stay for the next. */
    private static void oneHall() {
        Random random = new Random(77);
        OrderHall x = new OrderHall();
        for (int i = 0; i < 60; i++) {
            int n = 1 + random.nextInt(5);
            x.begin(n);
            Model m = some(random, n, i % 3 == 0);
            tell(x, m);
            compareAll(x, m, 1 + random.nextInt((1 << n) - 1));
        }
    }

    public static void main(String[] args) {
        for (int n = 1; n <= 4; n++) {
            allArcs(n);
        }
        someArcs(5, 300);
        someArcs(6, 120);
        someArcs(7, 24);
        oneHall();
        System.out.println(compared + " answers compared, " + wrong + " are not as due");
        if (wrong != 0) {
            System.exit(1);
        }
    }
}
