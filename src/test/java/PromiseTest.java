/** Each promise of the document by hand: ordinary inputs, its edges, and wrong inputs. */
public final class PromiseTest {
    private static final long BIG = 87178291200L; // 14!
    private static int wrong = 0;

    private interface Call {
        long answer();
    }

    private static void due(String what, long got, long want) {
        if (got != want) {
            wrong++;
            System.out.println(what + " answered " + got + ", due is " + want);
        }
    }

    private static void refused(String what, Class<? extends RuntimeException> want, Call call) {
        try {
            long got = call.answer();
            wrong++;
            System.out.println(what + " answered " + got + ", due is " + want.getSimpleName());
        } catch (RuntimeException e) {
            if (e.getClass() != want) {
                wrong++;
                System.out.println(what + " threw " + e + ", due is " + want.getSimpleName());
            }
        }
    }

    private static void noState(String what, Call call) {
        refused(what, IllegalStateException.class, call);
    }

    private static void noElement(String what, Call call) {
        refused(what, IndexOutOfBoundsException.class, call);
    }

    private static void noArgument(String what, Call call) {
        refused(what, IllegalArgumentException.class, call);
    }

    /** A hall with arcs, told as a, b, a, b .. */
    private static OrderHall hall(int n, int... ends) {
        OrderHall x = new OrderHall();
        x.begin(n);
        for (int i = 0; i < ends.length; i += 2) {
            x.arc(ends[i], ends[i + 1]);
        }
        return x;
    }

    private static OrderHall settled(int n, int... ends) {
        OrderHall x = hall(n, ends);
        due("settle of a settled hall", x.settle(), 0);
        return x;
    }

    /** 0 below 1 and 2, these below 3, and 4 apart from all. */
    private static OrderHall kite() {
        return settled(5, 0, 1, 0, 2, 1, 3, 2, 3);
    }

    private static OrderHall chain(int n) {
        OrderHall x = hall(n);
        for (int i = 0; i + 1 < n; i++) {
            x.arc(i, i + 1);
        }
        x.settle();
        return x;
    }

    private static long begin(OrderHall x, int n) {
        x.begin(n);
        return 0;
    }

    private static long take(OrderHall x, long number) {
        x.take(number);
        return 0;
    }

    private static long turn(OrderHall x) {
        x.turn();
        return 0;
    }

    /** All calls that want a settled order throw before they look at their arguments. */
    private static void allUnsettled(String when, OrderHall x) {
        for (int bad : new int[] {0, -1, 99}) {
            noState(when + ": compare", () -> x.compare(bad, bad));
            noState(when + ": set", () -> x.set(bad, bad));
            noState(when + ": level", () -> x.level(bad, bad));
            noState(when + ": count", () -> x.count(bad));
            noState(when + ": antichain", () -> x.antichain(bad));
            noState(when + ": most", () -> x.most(bad, bad));
            noState(when + ": first", () -> x.first(bad, bad));
            noState(when + ": chains", () -> x.chains(bad));
            noState(when + ": take", () -> take(x, bad));
            noState(when + ": bound", () -> x.bound(bad, bad, bad));
            noState(when + ": sign", () -> x.sign(bad, bad));
            noState(when + ": keep", () -> x.keep(bad));
        }
        noState(when + ": sequences", x::sequences);
        noState(when + ": lattice", x::lattice);
        noState(when + ": turn", () -> turn(x));
        noState(when + ": check", x::check);
        noSequence(when, x);
    }

    private static void noSequence(String when, OrderHall x) {
        due(when + ": at", x.at(0), -1);
        due(when + ": exchange", x.exchange(0), 0);
        due(when + ": number", x.number(), -1);
    }

    private static void promise1() {
        OrderHall x = new OrderHall();
        due("new: cycle", x.cycle(0), -1);
        allUnsettled("new", x);
        due("new: drop", x.drop(0, 0), 0);
        noElement("new: arc(0, 1)", () -> x.arc(0, 1));
        due("new: settle", x.settle(), 0);
        due("new: elements", x.count(2), 1);
        due("new: pairs", x.count(3), 0);
    }

    private static void promise2() {
        OrderHall x = settled(3, 0, 1, 1, 2);
        x.take(0);
        for (int n : new int[] {0, 15, -1, Integer.MIN_VALUE, Integer.MAX_VALUE}) {
            noArgument("begin(" + n + ")", () -> begin(x, n));
        }
        due("begin that throws keeps the order", x.compare(0, 2), -1);
        due("begin that throws keeps the sequence", x.number(), 0);
        x.begin(3);
        allUnsettled("begin", x);
        due("begin: no arcs", x.drop(0, 1), 0);
        x.settle();
        due("begin: no pairs", x.count(3), 0);
        x.begin(14);
        x.settle();
        due("begin(14)", x.count(2), 14);
        x.begin(1);
        x.settle();
        due("begin(1)", x.count(2), 1);
        OrderHall y = hall(2, 1, 1);
        due("begin: a cycle before", y.settle(), 1);
        y.begin(2);
        due("begin leaves no cycle", y.cycle(0), -1);
        due("begin leaves no arc that made it", y.settle(), 0);
    }

    private static void promise3() {
        OrderHall x = hall(3);
        due("arc", x.arc(0, 1), 1);
        due("arc again", x.arc(0, 1), 0);
        due("arc back", x.arc(1, 0), 1);
        x.drop(1, 0);
        x.settle();
        x.take(1);
        for (int bad : new int[] {-1, 3, 31, 32, Integer.MIN_VALUE, Integer.MAX_VALUE}) {
            noElement("arc(" + bad + ", 0)", () -> x.arc(bad, 0));
            noElement("arc(0, " + bad + ")", () -> x.arc(0, bad));
        }
        due("arc that throws keeps the sequence", x.number(), 1);
        due("arc that was there", x.arc(0, 1), 0);
        allUnsettled("arc that was there", x);
        x.settle();
        due("arc(1, 2)", x.arc(1, 2), 1);
        allUnsettled("arc", x);
        x.settle();
        due("arc: the order has it", x.compare(0, 2), -1);
        due("arc to itself", x.arc(2, 2), 1);
        due("arc to itself: a cycle", x.settle(), 1);
        x.arc(0, 2);
        due("arc leaves no cycle", x.cycle(0), -1);
    }

    private static void promise4() {
        OrderHall x = settled(3, 0, 1, 1, 2);
        x.take(0);
        for (int bad : new int[] {-1, 3, 32, Integer.MIN_VALUE, Integer.MAX_VALUE}) {
            noElement("drop(" + bad + ", 0)", () -> x.drop(bad, 0));
            noElement("drop(0, " + bad + ")", () -> x.drop(0, bad));
        }
        due("drop that throws keeps the sequence", x.number(), 0);
        due("drop of none", x.drop(0, 2), 0);
        allUnsettled("drop of none", x);
        x.settle();
        due("drop of none changes nothing", x.count(3), 3);
        due("drop", x.drop(0, 1), 1);
        allUnsettled("drop", x);
        due("drop again", x.drop(0, 1), 0);
        x.settle();
        due("drop: the arc is gone", x.count(3), 1);
        OrderHall y = hall(2, 0, 1, 1, 0);
        due("drop: a cycle before", y.settle(), 2);
        y.drop(0, 1);
        due("drop leaves no cycle", y.cycle(0), -1);
    }

    private static void promise5() {
        OrderHall x = settled(4, 0, 1);
        x.take(0);
        due("settle again", x.settle(), 0);
        noSequence("settle again", x);
        due("settle again: settled", x.compare(0, 1), -1);
        x.arc(1, 2);
        x.arc(2, 0);
        due("settle: a cycle of three", x.settle(), 3);
        allUnsettled("a cycle", x);
        due("settle: the same again", x.settle(), 3);
        due("settle: the same cycle", x.cycle(2), 2);
        x.drop(2, 0);
        due("settle without it", x.settle(), 0);
        due("settle: settled", x.compare(0, 2), -1);
    }

    private static void promise6() {
        OrderHall x = hall(6, 5, 4, 4, 5, 3, 2, 2, 1, 1, 3);
        due("cycle before settle", x.cycle(0), -1);
        due("fewest elements", x.settle(), 2);
        due("cycle from its least one", x.cycle(0), 4);
        due("cycle goes on", x.cycle(1), 5);
        for (int i : new int[] {2, -1, 14, Integer.MIN_VALUE, Integer.MAX_VALUE}) {
            due("cycle(" + i + ")", x.cycle(i), -1);
        }
        x.drop(5, 4);
        due("the other one", x.settle(), 3);
        due("it is written along its arcs: 0", x.cycle(0), 1);
        due("it is written along its arcs: 1", x.cycle(1), 3);
        due("it is written along its arcs: 2", x.cycle(2), 2);
        x.drop(2, 1);
        x.settle();
        due("no cycle", x.cycle(0), -1);
        lesserCycle();
        longestCycle();
    }

    private static void lesserCycle() {
        OrderHall x = hall(6, 0, 5, 5, 1, 1, 0, 0, 2, 2, 4, 4, 0, 2, 3, 3, 0);
        due("as few: how many", x.settle(), 3);
        due("as few: 0", x.cycle(0), 0);
        due("as few, the lesser at the second place", x.cycle(1), 2);
        due("as few, the lesser at the third place", x.cycle(2), 3);
        OrderHall y = hall(4, 3, 3, 2, 2, 0, 1, 1, 0);
        due("alone", y.settle(), 1);
        due("the least one alone", y.cycle(0), 2);
    }

    private static void longestCycle() {
        OrderHall x = hall(14);
        for (int i = 0; i < 14; i++) {
            x.arc(i, (i + 5) % 14);
        }
        due("a cycle of all", x.settle(), 14);
        for (int i = 0; i < 14; i++) {
            due("a cycle of all, place " + i, x.cycle(i), 5 * i % 14);
        }
        due("a cycle of all, beyond", x.cycle(14), -1);
    }

    private static void promise7() {
        OrderHall x = kite();
        due("compare same", x.compare(2, 2), 0);
        due("compare arc", x.compare(0, 1), -1);
        due("compare way", x.compare(0, 3), -1);
        due("compare back", x.compare(3, 0), 1);
        due("compare apart", x.compare(1, 2), 2);
        due("compare apart alone", x.compare(4, 0), 2);
        for (int bad : new int[] {-1, 5, 32, Integer.MIN_VALUE, Integer.MAX_VALUE}) {
            noElement("compare(" + bad + ", 0)", () -> x.compare(bad, 0));
            noElement("compare(0, " + bad + ")", () -> x.compare(0, bad));
            noElement("compare the same that is not there", () -> x.compare(bad, bad));
        }
    }

    private static void promise8() {
        OrderHall x = kite();
        x.arc(0, 3); // an arc that is no cover
        x.settle();
        int[][] want = {{0, 14, 0, 6, 16}, {1, 8, 1, 8, 20}, {1, 8, 1, 8, 18}, {7, 0, 6, 0, 16}, {0, 0, 0, 0, 15}};
        for (int e = 0; e < 5; e++) {
            for (int what = 0; what < 5; what++) {
                due("set(" + e + ", " + what + ")", x.set(e, what), want[e][what]);
            }
        }
        for (int bad : new int[] {-1, 5, Integer.MIN_VALUE, Integer.MAX_VALUE}) {
            noElement("set(" + bad + ", 0)", () -> x.set(bad, 0));
            noArgument("set(0, " + bad + ")", () -> x.set(0, bad));
            noElement("set, both wrong", () -> x.set(bad, bad));
        }
    }

    private static void promise9() {
        OrderHall x = settled(5, 0, 1, 1, 2, 0, 2, 3, 2);
        int[] last = {1, 2, 3, 1, 1};
        int[] first = {3, 2, 1, 2, 1};
        for (int e = 0; e < 5; e++) {
            due("level(" + e + ", 0)", x.level(e, 0), last[e]);
            due("level(" + e + ", 1)", x.level(e, 1), first[e]);
        }
        for (int bad : new int[] {-1, 5, Integer.MIN_VALUE, Integer.MAX_VALUE}) {
            noElement("level(" + bad + ", 0)", () -> x.level(bad, 0));
            noArgument("level(0, " + bad + ")", () -> x.level(0, bad));
            noElement("level, both wrong", () -> x.level(bad, bad));
        }
        noArgument("level(0, 2)", () -> x.level(0, 2));
        due("level of a long chain's last", chain(14).level(13, 0), 14);
        due("level of a long chain's first", chain(14).level(0, 1), 14);
    }

    private static void counts(String what, OrderHall x, int... want) {
        for (int i = 0; i < want.length; i++) {
            due(what + ": count(" + i + ")", x.count(i), want[i]);
        }
    }

    private static void promise10() {
        // without 4 the sets are {}, 0, 01, 02, 012, 0123; with 4 twice as many
        counts("kite", kite(), 3, 3, 5, 5, 4, 12, 1);
        counts("one", settled(1), 1, 1, 1, 0, 0, 2, 1);
        counts("apart", settled(14), 1, 14, 14, 0, 0, 16384, 1);
        counts("chain", chain(14), 14, 1, 14, 91, 13, 15, 14);
        counts("two pairs", settled(4, 0, 1, 2, 3), 2, 2, 4, 2, 2, 9, 4);
        OrderHall x = kite();
        for (int bad : new int[] {-1, 7, Integer.MIN_VALUE, Integer.MAX_VALUE}) {
            noArgument("count(" + bad + ")", () -> x.count(bad));
        }
    }

    private static void promise11() {
        OrderHall x = settled(4, 0, 1, 2, 3);
        due("highest", x.antichain(0), 10);
        due("lowest", x.antichain(1), 5);
        OrderHall y = settled(6, 5, 1, 5, 3, 1, 0, 3, 2, 0, 4, 2, 4);
        due("highest within", y.antichain(0), 5);
        due("lowest within", y.antichain(1), 10);
        due("highest of one each", chain(5).antichain(0), 16);
        due("lowest of one each", chain(5).antichain(1), 1);
        due("all", settled(14).antichain(0), 16383);
        for (int bad : new int[] {-1, 2, Integer.MIN_VALUE, Integer.MAX_VALUE}) {
            noArgument("antichain(" + bad + ")", () -> x.antichain(bad));
        }
    }

    /** 0 < 1 < 2 < 3, 1 < 5 and 4 < 2: its largest chain is in no two that hold all. */
    private static OrderHall fork() {
        return settled(6, 0, 1, 1, 2, 2, 3, 1, 5, 4, 2);
    }

    private static void promise12() {
        OrderHall x = fork();
        int[][] want = {{0, 4, 6, 6, 6, 6, 6}, {0, 2, 4, 5, 6, 6, 6}};
        for (int kind = 0; kind < 2; kind++) {
            for (int k = 0; k < 7; k++) {
                due("most(" + kind + ", " + k + ")", x.most(kind, k), want[kind][k]);
            }
            due("most(" + kind + ", 14)", x.most(kind, 14), 6);
        }
        OrderHall all = settled(14);
        due("most of 5 chains", all.most(0, 5), 5);
        due("most of 14 chains", all.most(0, 14), 14);
        due("most of 1 antichain", all.most(1, 1), 14);
        for (int bad : new int[] {-1, 15, Integer.MIN_VALUE, Integer.MAX_VALUE}) {
            noArgument("most(0, " + bad + ")", () -> x.most(0, bad));
            noArgument("most(1, " + bad + ")", () -> x.most(1, bad));
            noArgument("most(" + bad + ", 1)", () -> x.most(bad, 1));
        }
        noArgument("most(2, 1)", () -> x.most(2, 1));
    }

    private static void promise13() {
        OrderHall x = fork();
        int[][] want = {{0, 15, 63, 63, 63, 63, 63}, {0, 17, 53, 55, 63, 63, 63}};
        for (int kind = 0; kind < 2; kind++) {
            for (int k = 0; k < 7; k++) {
                due("first(" + kind + ", " + k + ")", x.first(kind, k), want[kind][k]);
            }
            due("first(" + kind + ", 14)", x.first(kind, 14), 63);
        }
        OrderHall all = settled(14);
        due("first of 5 chains", all.first(0, 5), 31);
        due("first of 1 antichain", all.first(1, 1), 16383);
        for (int bad : new int[] {-1, 15, Integer.MIN_VALUE, Integer.MAX_VALUE}) {
            noArgument("first(0, " + bad + ")", () -> x.first(0, bad));
            noArgument("first(1, " + bad + ")", () -> x.first(1, bad));
            noArgument("first(" + bad + ", 1)", () -> x.first(bad, 1));
        }
        noArgument("first(2, 1)", () -> x.first(2, 1));
    }

    private static void promise14() {
        OrderHall x = kite();
        int[] want = {1, 5, 5, 2, 0, 0};
        for (int m = 0; m < want.length; m++) {
            due("chains(" + m + ")", x.chains(m), want[m]);
        }
        due("chains(14)", x.chains(14), 0);
        long choose = 1;
        for (int m = 0; m <= 14; m++) {
            due("chains(" + m + ") of a chain", chain(14).chains(m), choose);
            choose = choose * (14 - m) / (m + 1);
        }
        for (int bad : new int[] {-1, 15, Integer.MIN_VALUE, Integer.MAX_VALUE}) {
            noArgument("chains(" + bad + ")", () -> x.chains(bad));
        }
    }

    private static void promise15() {
        due("sequences of one", settled(1).sequences(), 1);
        due("sequences of a chain", chain(14).sequences(), 1);
        due("sequences of all apart", settled(14).sequences(), BIG);
        due("sequences of the kite", kite().sequences(), 10);
        OrderHall x = hall(14);
        for (int i = 0; i < 7; i++) {
            x.arc(i, i + 7);
        }
        x.settle();
        due("sequences of seven pairs", x.sequences(), BIG / 128);
        x.begin(14);
        for (int i = 0; i < 14; i++) {
            if (i % 7 < 6) {
                x.arc(i, i + 1);
            }
            if (i < 7) {
                x.arc(i, i + 7);
            }
        }
        x.settle();
        due("sequences of two times seven", x.sequences(), 429);
    }

    private static void sequence(String what, OrderHall x, int... want) {
        for (int i = 0; i < want.length; i++) {
            due(what + ": at(" + i + ")", x.at(i), want[i]);
        }
    }

    private static void promise16() {
        OrderHall x = settled(4, 2, 0, 1, 3);
        int[][] want = {{1, 2, 0, 3}, {1, 2, 3, 0}, {1, 3, 2, 0}, {2, 0, 1, 3}, {2, 1, 0, 3}, {2, 1, 3, 0}};
        for (int i = 0; i < want.length; i++) {
            x.take(i);
            sequence("take(" + i + ")", x, want[i]);
        }
        for (long bad : new long[] {-1, 6, Long.MIN_VALUE, Long.MAX_VALUE, 1L << 32}) {
            noArgument("take(" + bad + ")", () -> take(x, bad));
        }
        sequence("take that throws keeps the sequence", x, want[5]);
        OrderHall all = settled(14);
        noArgument("take(14!)", () -> take(all, BIG));
        noSequence("take that throws", all);
        all.take(BIG - 1);
        sequence("the last of all", all, 13, 12, 11, 10, 9, 8, 7, 6, 5, 4, 3, 2, 1, 0);
    }

    private static void promise17() {
        OrderHall x = settled(3, 2, 0);
        due("at without a sequence", x.at(0), -1);
        x.take(2);
        sequence("at", x, 2, 1, 0);
        for (int i : new int[] {-1, 3, 13, 14, Integer.MIN_VALUE, Integer.MAX_VALUE}) {
            due("at(" + i + ")", x.at(i), -1);
        }
    }

    private static void promise18() {
        OrderHall x = settled(3, 2, 0);
        due("exchange without a sequence", x.exchange(0), 0);
        x.take(0);
        sequence("before exchange", x, 1, 2, 0);
        due("exchange of comparable ones", x.exchange(1), 0);
        sequence("exchange that does nothing", x, 1, 2, 0);
        due("exchange", x.exchange(0), 1);
        sequence("exchange", x, 2, 1, 0);
        due("exchange: its number", x.number(), 2);
        for (int i : new int[] {-1, 2, 3, 13, Integer.MIN_VALUE, Integer.MAX_VALUE}) {
            due("exchange(" + i + ")", x.exchange(i), 0);
        }
        due("exchange at the last places", x.exchange(1), 1);
        due("exchange: its number then", x.number(), 1);
        OrderHall all = settled(14);
        all.take(0);
        due("exchange(12) of all", all.exchange(12), 1);
        due("exchange(12) of all: its number", all.number(), 1);
        due("exchange(13) of all", all.exchange(13), 0);
    }

    private static void promise19() {
        OrderHall x = kite();
        due("number without a sequence", x.number(), -1);
        for (long i = 0; i < 10; i++) {
            x.take(i);
            due("number", x.number(), i);
        }
        OrderHall all = settled(14);
        for (long i : new long[] {0, 1, 6227020800L, 40000000000L, BIG - 1}) {
            all.take(i);
            due("number of all", all.number(), i);
        }
        x.arc(0, 1);
        due("number after a change", x.number(), -1);
        x.settle();
        due("number after settle", x.number(), -1);
    }

    private static void promise20() {
        OrderHall x = kite();
        due("meet", x.bound(0, 1, 2), 0);
        due("join", x.bound(1, 1, 2), 3);
        due("meet of comparable ones", x.bound(0, 3, 1), 1);
        due("join of comparable ones", x.bound(1, 0, 2), 2);
        due("meet of one", x.bound(0, 4, 4), 4);
        due("join of one", x.bound(1, 2, 2), 2);
        due("no meet", x.bound(0, 4, 1), -1);
        due("no join", x.bound(1, 0, 4), -1);
        OrderHall two = settled(6, 0, 2, 0, 3, 1, 2, 1, 3, 4, 0, 4, 1, 2, 5, 3, 5);
        due("two greatest lower ones", two.bound(0, 2, 3), -1);
        due("two least upper ones", two.bound(1, 0, 1), -1);
        due("meet of the lower two", two.bound(0, 0, 1), 4);
        due("join of the upper two", two.bound(1, 2, 3), 5);
        for (int bad : new int[] {-1, 5, 32, Integer.MIN_VALUE, Integer.MAX_VALUE}) {
            noElement("bound(0, " + bad + ", 0)", () -> x.bound(0, bad, 0));
            noElement("bound(1, 0, " + bad + ")", () -> x.bound(1, 0, bad));
            noArgument("bound(" + bad + ", 0, 0)", () -> x.bound(bad, 0, 0));
            noElement("bound, all wrong", () -> x.bound(bad, bad, bad));
        }
        noArgument("bound(2, 0, 0)", () -> x.bound(2, 0, 0));
    }

    private static void promise21() {
        due("lattice: one", settled(1).lattice(), 2);
        due("lattice: chain", chain(14).lattice(), 2);
        due("lattice: two apart", settled(2).lattice(), 0);
        due("lattice: kite", kite().lattice(), 0);
        due("lattice: square", settled(4, 0, 1, 0, 2, 1, 3, 2, 3).lattice(), 2);
        due("lattice: three between", settled(5, 0, 1, 0, 2, 0, 3, 1, 4, 2, 4, 3, 4).lattice(), 1);
        due("lattice: five round", settled(5, 0, 1, 1, 2, 2, 4, 0, 3, 3, 4).lattice(), 1);
        due("lattice: meets alone", settled(3, 0, 1, 0, 2).lattice(), 0);
        due("lattice: joins alone", settled(3, 1, 0, 2, 0).lattice(), 0);
        due("lattice: two over two",
                settled(6, 0, 2, 0, 3, 1, 2, 1, 3, 4, 0, 4, 1, 2, 5, 3, 5).lattice(), 0);
        OrderHall x = hall(12); // 1 .. 3 times 2 times 2
        for (int i = 0; i < 12; i++) {
            for (int step : new int[] {1, 3, 6}) {
                boolean last = step == 1 ? i % 3 == 2 : i / step % 2 == 1;
                if (!last) {
                    x.arc(i, i + step);
                }
            }
        }
        x.settle();
        due("lattice: box", x.lattice(), 2);
    }

    private static void promise22() {
        OrderHall x = kite();
        due("sign same", x.sign(3, 3), 1);
        due("sign cover", x.sign(0, 1), -1);
        due("sign square", x.sign(0, 3), 1);
        due("sign back", x.sign(3, 0), 0);
        due("sign apart", x.sign(1, 2), 0);
        due("sign of two steps", chain(3).sign(0, 2), 0);
        OrderHall y = hall(14);
        for (int i = 1; i < 13; i++) {
            y.arc(0, i);
            y.arc(i, 13);
        }
        y.settle();
        due("sign of twelve between", y.sign(0, 13), 11);
        for (int bad : new int[] {-1, 5, 32, Integer.MIN_VALUE, Integer.MAX_VALUE}) {
            noElement("sign(" + bad + ", 0)", () -> x.sign(bad, 0));
            noElement("sign(0, " + bad + ")", () -> x.sign(0, bad));
        }
    }

    private static void promise23() {
        OrderHall x = settled(4, 0, 1, 1, 2, 0, 3);
        x.take(0);
        x.turn();
        noSequence("turn", x);
        due("turn", x.compare(0, 2), 1);
        due("turn: below", x.set(0, 0), 14);
        due("turn: sequences", x.sequences(), 3);
        due("turn: level", x.level(0, 0), 3);
        due("turn: highest", x.antichain(0), 10);
        due("turn: lowest", x.antichain(1), 12);
        due("turn: cycle", x.cycle(0), -1);
        due("turn: no arc of before", x.drop(0, 1), 0);
        due("turn: no arc between", x.drop(2, 0), 0);
        due("turn: an arc turned", x.drop(1, 0), 1);
        OrderHall y = settled(3, 0, 2, 1, 2);
        y.sequences();
        y.first(1, 1);
        y.turn();
        y.take(1);
        sequence("turn, then take", y, 2, 1, 0);
        due("turn, then lowest", y.antichain(1), 3);
        y.turn();
        due("turn twice", y.set(2, 0), 3);
    }

    private static void promise24() {
        OrderHall x = settled(5, 4, 2, 2, 0, 0, 3);
        x.take(0);
        for (int bad : new int[] {0, 32, 33, 1 << 30, -1, Integer.MIN_VALUE, Integer.MAX_VALUE}) {
            noArgument("keep(" + bad + ")", () -> x.keep(bad));
        }
        due("keep that throws keeps the order", x.count(2), 5);
        due("keep that throws keeps the sequence", x.number(), 0);
        due("keep", x.keep(1 | 2 | 8 | 16), 4); // 0, 1, 3, 4 are 0, 1, 2, 3 now
        noSequence("keep", x);
        due("keep: elements", x.count(2), 4);
        due("keep: pairs", x.count(3), 3);
        due("keep: across the one that is gone", x.compare(3, 0), -1);
        due("keep: apart", x.set(1, 4), 13);
        due("keep: sequences", x.sequences(), 4);
        due("keep: cycle", x.cycle(0), -1);
        due("keep: an arc for each pair", x.drop(3, 2), 1);
        due("keep: an arc that led between", x.drop(3, 0), 1);
        due("keep: no other arc", x.drop(0, 3), 0);
        noElement("keep: no more elements", () -> x.arc(4, 0));
        OrderHall y = chain(14);
        due("keep all", y.keep(16383), 14);
        due("keep all: an arc for each pair", y.drop(0, 13), 1);
        y.settle();
        due("keep one", y.keep(1 << 13), 1);
        due("keep one: elements", y.count(2), 1);
    }

    private static void promise25() {
        due("check one", settled(1).check(), 1);
        due("check kite", kite().check(), 1);
        due("check fork", fork().check(), 1);
        due("check chain", chain(14).check(), 1);
        due("check all apart", settled(14).check(), 1);
        OrderHall x = fork();
        x.take(3);
        x.check();
        due("check keeps the sequence", x.number(), 3);
    }

    /** No answer hangs on what was asked before it. */
    private static void askedFirst() {
        due("count(1) first", fork().count(1), 2);
        due("count(5) first", fork().count(5), 12);
        due("count(6) first", fork().count(6), 5);
        due("antichain(0) first", fork().antichain(0), 40);
        due("antichain(1) first", fork().antichain(1), 17);
        due("most first", fork().most(1, 2), 4);
        due("first first", fork().first(1, 2), 53);
        due("check first", fork().check(), 1);
        due("sequences first", fork().sequences(), 10);
        OrderHall x = fork();
        x.take(9);
        due("take first", x.number(), 9);
        for (int what = 0; what < 7; what++) {
            OrderHall y = fork();
            y.count(what);
            y.sequences();
            y.keep(3);
            counts("keep, then all, behind count(" + what + ")", y, 2, 1, 2, 1, 1, 3, 2);
            due("keep, then sequences", y.sequences(), 1);
        }
    }

    public static void main(String[] args) {
        due("NONE", OrderHall.NONE, -1);
        promise1();
        promise2();
        promise3();
        promise4();
        promise5();
        promise6();
        promise7();
        promise8();
        promise9();
        promise10();
        promise11();
        promise12();
        promise13();
        promise14();
        promise15();
        promise16();
        promise17();
        promise18();
        promise19();
        promise20();
        promise21();
        promise22();
        promise23();
        promise24();
        promise25();
        askedFirst();
        System.out.println(wrong == 0 ? "all promises hold" : wrong + " answers are not as due");
        if (wrong != 0) {
            System.exit(1);
        }
    }
}
