import java.lang.management.ManagementFactory;
import java.util.Random;

/** Orders of up to 14 elements whose answers are known by formulas, and what a long run takes. */
public final class LargeTest {
    private static int wrong = 0;

    private static void due(String what, long got, long want) {
        if (got != want) {
            wrong++;
            System.out.println(what + " answered " + got + ", due is " + want);
        }
    }

    private static int choose(int n, int k) {
        int result = 1;
        for (int i = 0; i < k; i++) {
            result = result * (n - i) / (i + 1);
        }
        return result;
    }

    /** 0 < 1 > 2 < 3 > ..: its sequences are the zigzag numbers, its down-sets Fibonacci's. */
    private static void fences() {
        long[] zigzag = {1, 1, 1, 2, 5, 16, 61, 272, 1385, 7936, 50521, 353792, 2702765, 22368256, 199360981};
        int one = 1;
        int two = 2;
        for (int n = 1; n <= 14; n++) {
            OrderHall x = new OrderHall();
            x.begin(n);
            for (int i = 0; i + 1 < n; i++) {
                x.arc(i % 2 == 0 ? i : i + 1, i % 2 == 0 ? i + 1 : i);
            }
            x.settle();
            due("fence of " + n + ": sequences", x.sequences(), zigzag[n]);
            due("fence of " + n + ": down-sets", x.count(5), two);
            due("fence of " + n + ": width", x.count(1), (n + 1) / 2);
            due("fence of " + n + ": check", x.check(), 1);
            x.take(zigzag[n] - 1);
            due("fence of " + n + ": number", x.number(), zigzag[n] - 1);
            int next = one + two;
            one = two;
            two = next;
        }
    }

    /** Chains of p and q elements side by side: all is told by binomials. */
    private static void sideBySide() {
        for (int p = 1; p <= 13; p++) {
            int q = 14 - p;
            OrderHall x = new OrderHall();
            x.begin(14);
            for (int i = 0; i < 13; i++) {
                if (i + 1 != p) {
                    x.arc(i, i + 1);
                }
            }
            x.settle();
            String what = p + " beside " + q + ": ";
            due(what + "sequences", x.sequences(), choose(14, p));
            due(what + "down-sets", x.count(5), (p + 1) * (q + 1));
            due(what + "largest antichains", x.count(6), p * q);
            due(what + "highest", x.antichain(0), 1 << p - 1 | 1 << 13);
            due(what + "lowest", x.antichain(1), 1 | 1 << p);
            due(what + "one chain", x.most(0, 1), Math.max(p, q));
            int first = p >= q ? (1 << p) - 1 : 16383 & ~((1 << p) - 1);
            due(what + "first chain", x.first(0, 1), first);
            for (int k = 1; k <= 14; k++) {
                due(what + "antichains", x.most(1, k), Math.min(p, k) + Math.min(q, k));
                int held = (1 << Math.min(p, k)) - 1 | (1 << Math.min(q, k)) - 1 << p;
                due(what + "first antichains", x.first(1, k), held);
                due(what + "chains", x.chains(k), choose(p, k) + choose(q, k));
            }
            due(what + "check", x.check(), 1);
        }
    }

    /** p times q elements, by places: a distributive lattice. */
    private static void grids() {
        int[][] tables = {{2, 7, 429}, {3, 4, 462}, {2, 6, 132}, {3, 3, 42}};
        for (int[] pq : tables) {
            int p = pq[0];
            int q = pq[1];
            OrderHall x = new OrderHall();
            x.begin(p * q);
            for (int i = 0; i < p * q; i++) {
                if (i % q + 1 < q) {
                    x.arc(i, i + 1);
                }
                if (i + q < p * q) {
                    x.arc(i, i + q);
                }
            }
            x.settle();
            String what = p + " times " + q + ": ";
            due(what + "sequences", x.sequences(), pq[2]);
            due(what + "down-sets", x.count(5), choose(p + q, p));
            due(what + "height", x.count(0), p + q - 1);
            due(what + "width", x.count(1), Math.min(p, q));
            due(what + "lattice", x.lattice(), 2);
            due(what + "sign", x.sign(0, q + 1), 1);
            due(what + "sign beyond", x.sign(0, p * q - 1), p == 2 && q == 2 ? 1 : 0);
            due(what + "join", x.bound(1, q - 1, (p - 1) * q), p * q - 1);
            due(what + "meet", x.bound(0, q - 1, (p - 1) * q), 0);
            due(what + "check", x.check(), 1);
        }
    }

    private static void tellSome(OrderHall x, Random random, int often) {
        x.begin(14);
        for (int a = 0; a < 14; a++) {
            for (int b = 0; b < 14; b++) {
                boolean may = a * 5 % 14 < b * 5 % 14;
                if (may && random.nextInt(100) < often) {
                    x.arc(a, b);
                }
            }
        }
        x.settle();
    }

    /** What k more chains hold, and what k more antichains hold, are two conjugate partitions. */
    private static void conjugates() {
        Random random = new Random(14);
        for (int i = 0; i < 100; i++) {
            OrderHall x = new OrderHall();
            tellSome(x, random, 3 + i % 40);
            due("check", x.check(), 1);
            for (int k = 1; k <= 14; k++) {
                int longer = 0;
                for (int j = 1; j <= 14; j++) {
                    longer += x.most(0, j) - x.most(0, j - 1) >= k ? 1 : 0;
                }
                due("more held by the antichain " + k, x.most(1, k) - x.most(1, k - 1), longer);
            }
        }
    }

    /** What the first sets hold, they hold also as orders of their own. */
    private static void firstsAlone() {
        for (int i = 0; i < 60; i++) {
            for (int kind = 0; kind < 2; kind++) {
                OrderHall x = new OrderHall();
                tellSome(x, new Random(i), 3 + i % 30);
                int k = 1 + i % 5;
                int most = x.most(kind, k);
                due("elements of the first set", Integer.bitCount(x.first(kind, k)), most);
                due("keep", x.keep(x.first(kind, k)), most);
                due("width or height alone", Math.min(x.count(1 - kind), k), x.count(1 - kind));
                due("most alone", x.most(kind, k), most);
            }
        }
    }

    /** The room of a run: rows made once, and no call that makes more. */
    private static void room() {
        var threads = (com.sun.management.ThreadMXBean) ManagementFactory.getThreadMXBean();
        long before = threads.getCurrentThreadAllocatedBytes();
        OrderHall x = new OrderHall();
        x.begin(14);
        long sum = 0;
        for (int i = 0; i < 63; i++) {
            int up = i % 2; // the order has been turned so often
            sum += x.arc(i % 13 + up, i % 13 + 1 - up);
            sum += x.settle() + x.sequences() + x.check() + x.lattice() + x.sign(0, 13) + x.chains(5);
            x.turn();
        }
        long bytes = threads.getCurrentThreadAllocatedBytes() - before;
        if (sum == 0 || bytes > 300000) {
            wrong++;
            System.out.println("a run of 505 calls made " + bytes + " bytes");
        }
    }

    public static void main(String[] args) {
        fences();
        sideBySide();
        grids();
        conjugates();
        firstsAlone();
        room();
        System.out.println(wrong == 0 ? "all answers are as due" : wrong + " answers are not as due");
        if (wrong != 0) {
            System.exit(1);
        }
    }
}
