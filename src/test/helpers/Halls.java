/** Halls for tests, and what can be seen of one. */
final class Halls {
    static final int ALL = 16383; // the set of 14 elements
    static final long MANY = 87178291200L; // 14!: the sequences of 14 elements that are all apart

    private Halls() {
    }

    /** A hall with arcs, told as a, b, a, b .. */
    static OrderHall hall(int n, int... ends) {
        OrderHall x = new OrderHall();
        x.begin(n);
        for (int i = 0; i < ends.length; i += 2) {
            x.arc(ends[i], ends[i + 1]);
        }
        return x;
    }

    static OrderHall settled(int n, int... ends) {
        OrderHall x = hall(n, ends);
        if (x.settle() != 0) {
            throw new RuntimeException("a hall without a cycle did not settle");
        }
        return x;
    }

    /** 0 < 1 < 2 .. */
    static OrderHall chain(int n) {
        return settled(n, steps(n - 1, 1, 0));
    }

    /** The arcs from i to i + far, or the other way round, for so many i. */
    static int[] steps(int many, int far, int back) {
        int[] ends = new int[2 * many];
        for (int i = 0; i < many; i++) {
            ends[2 * i + back] = i;
            ends[2 * i + 1 - back] = i + far;
        }
        return ends;
    }

    /** 14 elements: 0 .. 6, each of them < each of 7 .. 13. */
    static OrderHall sevenUnderSeven() {
        int[] ends = new int[98];
        for (int i = 0; i < 49; i++) {
            ends[2 * i] = i / 7;
            ends[2 * i + 1] = 7 + i % 7;
        }
        return settled(14, ends);
    }

    /** 0 < 7, 1 < 8 .. 6 < 13. */
    static OrderHall sevenPairs() {
        return settled(14, steps(7, 7, 0));
    }

    /** 0 < 1 < 2 < 3, 1 < 5 and 4 < 2. */
    static OrderHall fork() {
        return settled(6, 0, 1, 1, 2, 2, 3, 1, 5, 4, 2);
    }

    /** 0 < 1, 0 < 2, and 3 apart from all; with the sequence 0, 1, 3, 2. */
    static OrderHall withSequence() {
        OrderHall x = settled(4, 0, 1, 0, 2);
        x.take(1);
        return x;
    }

    /** Arcs from 0 to 1, from 1 to 2, from 2 to 3 and from 3 to 1: settled in vain. */
    static OrderHall withCycle() {
        OrderHall x = hall(4, 0, 1, 1, 2, 2, 3, 3, 1);
        x.settle();
        return x;
    }

    static String sequence(OrderHall x) {
        StringBuilder text = new StringBuilder();
        for (int i = -1; i <= 14; i++) {
            if (x.at(i) != OrderHall.NONE) {
                text.append(text.length() == 0 ? "" : " ").append(x.at(i));
            }
        }
        return text.length() == 0 ? "none" : text.toString();
    }

    static String cycle(OrderHall x) {
        StringBuilder text = new StringBuilder();
        for (int i = -1; i <= 14; i++) {
            if (x.cycle(i) != OrderHall.NONE) {
                text.append(text.length() == 0 ? "" : " ").append(x.cycle(i));
            }
        }
        return text.length() == 0 ? "none" : text.toString();
    }

    /** The arcs that are there; the call drops them all. */
    static String arcs(OrderHall x, int n) {
        StringBuilder text = new StringBuilder();
        for (int a = 0; a < n; a++) {
            for (int b = 0; b < n; b++) {
                if (x.drop(a, b) == 1) {
                    text.append(text.length() == 0 ? "" : " ").append(a).append(">").append(b);
                }
            }
        }
        return text.length() == 0 ? "none" : text.toString();
    }

    /** All that a hall of few elements answers, told without a change. */
    static String seen(OrderHall x) {
        StringBuilder text = new StringBuilder();
        text.append("cycle ").append(cycle(x));
        text.append(", sequence ").append(sequence(x)).append(", number ").append(x.number());
        try {
            order(x, x.count(2), text);
        } catch (IllegalStateException e) {
            text.append(", not settled");
        }
        return text.toString();
    }

    private static void order(OrderHall x, int n, StringBuilder text) {
        text.append(", order");
        for (int a = 0; a < n; a++) {
            for (int b = 0; b < n; b++) {
                text.append(' ').append(x.compare(a, b)).append(' ').append(x.sign(a, b));
            }
            text.append(' ').append(x.set(a, 2)).append(' ').append(x.level(a, 0));
        }
        for (int what = 0; what < 7; what++) {
            text.append(' ').append(x.count(what));
        }
        for (int k = 0; k <= n; k++) {
            text.append(' ').append(x.first(0, k)).append(' ').append(x.first(1, k));
            text.append(' ').append(x.chains(k));
        }
        text.append(' ').append(x.antichain(0)).append(' ').append(x.antichain(1));
        text.append(' ').append(x.sequences()).append(' ').append(x.lattice());
        text.append(' ').append(x.check());
    }
}
