/** A test for each sentence of the 25 promises that names a boundary case. */
public final class BoundaryPromisesTest {
    private static final int LEAST = Integer.MIN_VALUE;
    private static final int GREATEST = Integer.MAX_VALUE;
    private static final int[] ARCS_OF_TWO_ROWS = {0, 2, 0, 3, 1, 2, 1, 3};

    // ---- 1, 2: new objects and begin

    private static void beginnings() {
        Sentences.sentence("Promise 1", "One element", BoundaryPromisesTest::newHasOneElement);
        Sentences.sentence("Promise 1", "no arcs", BoundaryPromisesTest::newHasNoArcs);
        Sentences.sentence("Promise 1", "not settled", BoundaryPromisesTest::newIsNotSettled);
        Sentences.sentence("Promise 1", "A new object", BoundaryPromisesTest::newIsAlone);
        Sentences.sentence("Promise 2", "n elements", BoundaryPromisesTest::beginElements);
        Sentences.sentence("Promise 2", "no arcs", BoundaryPromisesTest::beginNoArcs);
        Sentences.sentence("Promise 2", "not settled", BoundaryPromisesTest::beginNotSettled);
        Sentences.sentence("Promise 2", "IllegalArgumentException when n is not 1 .. 14",
                BoundaryPromisesTest::beginRefused);
    }

    private static void newHasOneElement() {
        OrderHall x = new OrderHall();
        Sentences.noElement("arc(0, 1)", () -> x.arc(0, 1));
        Sentences.noElement("arc(1, 0)", () -> x.arc(1, 0));
        Sentences.noElement("drop(0, 1)", () -> x.drop(0, 1));
        x.settle();
        Sentences.due("elements", x.count(2), 1);
        Sentences.noElement("compare(0, 1)", () -> x.compare(0, 1));
        Sentences.due("keep of the one", x.keep(1), 1);
        Sentences.noArgument("keep of two", () -> x.keep(3));
    }

    private static void newHasNoArcs() {
        Sentences.due("drop", new OrderHall().drop(0, 0), 0);
        Sentences.due("settle", new OrderHall().settle(), 0);
        Sentences.due("arc", new OrderHall().arc(0, 0), 1);
    }

    private static void newIsNotSettled() {
        OrderHall x = new OrderHall();
        Sentences.noState("count", () -> x.count(2));
        Sentences.noState("sequences", x::sequences);
        Sentences.due("cycle", x.cycle(0), -1);
        Sentences.due("at", x.at(0), -1);
        Sentences.due("exchange", x.exchange(0), 0);
        Sentences.due("number", x.number(), -1);
    }

    private static void newIsAlone() {
        OrderHall x = Halls.withSequence();
        OrderHall y = new OrderHall();
        y.begin(14);
        y.settle();
        y.take(5);
        Sentences.same("the one made before it", Halls.sequence(x), "0 1 3 2");
        Sentences.due("the order of the one made before it", x.compare(1, 0), 1);
    }

    private static void beginElements() {
        OrderHall x = new OrderHall();
        for (int n = 1; n <= 14; n++) {
            x.begin(n);
            x.settle();
            Sentences.due("elements behind begin(" + n + ")", x.count(2), n);
        }
        x.begin(1);
        Sentences.noElement("arc(0, 1) behind begin(1)", () -> x.arc(0, 1));
    }

    private static void beginNoArcs() {
        OrderHall x = Halls.hall(14, Halls.steps(13, 1, 0));
        x.begin(2);
        Sentences.due("drop(0, 1) behind begin(2)", x.drop(0, 1), 0);
        x.begin(14);
        x.settle();
        Sentences.due("pairs, with as many elements as before", x.count(3), 0);
        OrderHall full = Halls.hall(14);
        for (int i = 0; i < 196; i++) {
            full.arc(i / 14, i % 14);
        }
        full.begin(14);
        Sentences.same("all arcs there were", Halls.arcs(full, 14), "none");
        OrderHall y = Halls.withCycle();
        y.begin(4);
        Sentences.due("settle, where a cycle was", y.settle(), 0);
    }

    private static void beginNotSettled() {
        OrderHall x = Halls.settled(3);
        x.take(5);
        x.begin(3);
        Sentences.noState("count, as many elements and no arcs as before", () -> x.count(2));
        Sentences.due("at", x.at(0), -1);
        Sentences.due("number", x.number(), -1);
        OrderHall y = Halls.withCycle();
        y.begin(4);
        Sentences.same("THE CYCLE", Halls.cycle(y), "none");
    }

    private static void beginRefused() {
        OrderHall x = Halls.withSequence();
        for (int n : new int[] {0, 15, -1, 16, 31, 32, 33, 257, 65537, LEAST, GREATEST}) {
            Sentences.noArgument("begin(" + n + ")", () -> x.begin(n));
        }
        Sentences.due("elements behind it", x.count(2), 4);
        Sentences.same("sequence behind it", Halls.sequence(x), "0 1 3 2");
    }

    // ---- 3, 4: arc and drop

    private static void arcs() {
        Sentences.sentence("Promise 3", "An arc from a to b", BoundaryPromisesTest::arcAllPlaces);
        Sentences.sentence("Promise 3", "not settled then, in any case",
                BoundaryPromisesTest::arcUnsettles);
        Sentences.sentence("Promise 3", "1, or 0 when it was there",
                BoundaryPromisesTest::arcTwice);
        Sentences.sentence("Promise 3", "IndexOutOfBoundsException when there is no such element",
                BoundaryPromisesTest::arcRefused);
        Sentences.sentence("Promise 4", "The arc from a to b goes",
                BoundaryPromisesTest::dropGoes);
        Sentences.sentence("Promise 4", "not settled then", BoundaryPromisesTest::dropUnsettles);
        Sentences.sentence("Promise 4", "1, or 0 when there was none",
                BoundaryPromisesTest::dropTwice);
        Sentences.sentence("Promise 4", "IndexOutOfBoundsException likewise",
                BoundaryPromisesTest::dropRefused);
    }

    /** 196 arcs, told twice: 392 calls. */
    private static void arcAllPlaces() {
        OrderHall x = Halls.hall(14);
        for (int due = 1; due >= 0; due--) {
            for (int a = 0; a < 14; a++) {
                for (int b = 0; b < 14; b++) {
                    Sentences.due("arc(" + a + ", " + b + ")", x.arc(a, b), due);
                }
            }
        }
    }

    private static void arcUnsettles() {
        OrderHall x = Halls.settled(3, 0, 1, 1, 2);
        Sentences.due("an arc more", x.arc(0, 2), 1);
        Sentences.noState("count behind an arc more", () -> x.count(2));
        x.settle();
        Sentences.due("an arc that was there", x.arc(0, 2), 0);
        Sentences.noState("count behind an arc that was there", () -> x.count(2));
        x.settle();
        Sentences.due("an arc to itself", x.arc(2, 2), 1);
        Sentences.noState("count behind an arc to itself", () -> x.count(2));
    }

    private static void arcTwice() {
        OrderHall x = Halls.hall(2);
        Sentences.due("arc", x.arc(0, 1), 1);
        Sentences.due("arc again", x.arc(0, 1), 0);
        Sentences.due("the arc back is another one", x.arc(1, 0), 1);
        x.drop(0, 1);
        Sentences.due("arc behind drop", x.arc(0, 1), 1);
        OrderHall y = Halls.settled(3, 0, 1, 1, 2);
        Sentences.due("where a way leads, but no arc", y.arc(0, 2), 1);
        OrderHall z = Halls.settled(2, 0, 1);
        Sentences.due("arc that was there when it was settled", z.arc(0, 1), 0);
    }

    private static void arcRefused() {
        for (int n : new int[] {1, 2, 13, 14}) {
            OrderHall x = Halls.settled(n);
            for (int bad : new int[] {-1, n, n + 1, 32, LEAST, GREATEST}) {
                Sentences.noElement("arc(" + bad + ", 0) of " + n, () -> x.arc(bad, 0));
                Sentences.noElement("arc(0, " + bad + ") of " + n, () -> x.arc(0, bad));
                Sentences.noElement("arc(" + bad + ", " + bad + ") of " + n, () -> x.arc(bad, bad));
            }
            Sentences.due("pairs behind it", x.count(3), 0);
        }
    }

    private static void dropGoes() {
        OrderHall x = Halls.chain(14);
        Sentences.due("drop of the last arc", x.drop(12, 13), 1);
        x.settle();
        Sentences.due("the last one is apart", x.set(13, 4), 8191);
        OrderHall y = Halls.settled(3, 0, 1, 1, 2, 0, 2);
        y.drop(0, 2);
        y.settle();
        Sentences.due("a way is left", y.compare(0, 2), -1);
        OrderHall z = Halls.hall(1, 0, 0);
        z.drop(0, 0);
        Sentences.due("settle without the arc to itself", z.settle(), 0);
    }

    private static void dropUnsettles() {
        OrderHall x = Halls.settled(3, 0, 1, 1, 2);
        Sentences.due("an arc less", x.drop(0, 1), 1);
        Sentences.noState("count behind an arc less", () -> x.count(2));
        x.settle();
        Sentences.due("an arc that was not there", x.drop(0, 1), 0);
        Sentences.noState("count behind an arc that was not there", () -> x.count(2));
    }

    private static void dropTwice() {
        OrderHall x = Halls.hall(3, 0, 1, 1, 2);
        Sentences.due("drop back", x.drop(1, 0), 0);
        Sentences.due("drop where a way leads, but no arc", x.drop(0, 2), 0);
        Sentences.due("drop", x.drop(0, 1), 1);
        Sentences.due("drop again", x.drop(0, 1), 0);
        Sentences.due("drop of an arc to itself that is not there", x.drop(2, 2), 0);
        Sentences.due("drop of the last one", x.drop(1, 2), 1);
        Sentences.same("the arcs", Halls.arcs(x, 3), "none");
    }

    private static void dropRefused() {
        for (int n : new int[] {1, 2, 13, 14}) {
            OrderHall x = Halls.chain(n);
            for (int bad : new int[] {-1, n, n + 1, 32, LEAST, GREATEST}) {
                Sentences.noElement("drop(" + bad + ", 0) of " + n, () -> x.drop(bad, 0));
                Sentences.noElement("drop(0, " + bad + ") of " + n, () -> x.drop(0, bad));
                Sentences.noElement("drop(" + bad + ", " + bad + ") of " + n, () -> x.drop(bad, bad));
            }
            Sentences.due("covers behind it", x.count(4), n - 1);
        }
    }

    // ---- 5, 6: settle and cycle

    private static void settling() {
        Sentences.sentence("Promise 5", "Settles the order: 0", BoundaryPromisesTest::settles);
        Sentences.sentence("Promise 5", "(also if it is settled)",
                BoundaryPromisesTest::settlesAgain);
        Sentences.sentence("Promise 5", "or how many elements THE CYCLE has",
                BoundaryPromisesTest::cyclesOfEachSize);
        Sentences.sentence("Promise 5", "(it is not settled then)",
                BoundaryPromisesTest::cycleNotSettled);
        Sentences.sentence("Promise 5", "There is no sequence then",
                BoundaryPromisesTest::settleLeavesNoSequence);
        Sentences.sentence("Promise 6", "Element i of THE CYCLE",
                BoundaryPromisesTest::cyclePlaces);
        Sentences.sentence("Promise 6", "NONE when there is no such place",
                BoundaryPromisesTest::cycleNoPlace);
        Sentences.sentence("Promise 6", "(NONE when) the latest settle() (since the last change) "
                + "found none", BoundaryPromisesTest::cycleFoundNone);
    }

    private static void settles() {
        for (int n = 1; n <= 14; n++) {
            Sentences.due("settle of " + n + " without arcs", Halls.hall(n).settle(), 0);
        }
        OrderHall x = Halls.hall(14);
        for (int a = 0; a < 14; a++) {
            for (int b = 0; b < a; b++) {
                x.arc(a, b);
            }
        }
        Sentences.due("settle with all arcs that make no cycle", x.settle(), 0);
        Sentences.due("pairs then", x.count(3), 91);
    }

    private static void settlesAgain() {
        OrderHall x = Halls.settled(3, 2, 1);
        Sentences.due("settle again", x.settle(), 0);
        Sentences.due("compare behind it", x.compare(2, 1), -1);
        Sentences.due("settle a third time", x.settle(), 0);
        Sentences.due("settle of what was turned", settleTurned(), 0);
    }

    private static int settleTurned() {
        OrderHall x = Halls.chain(14);
        x.turn();
        return x.settle();
    }

    private static OrderHall ring(int n, int size) {
        OrderHall x = Halls.hall(n, Halls.steps(size - 1, 1, 1));
        x.arc(0, size - 1); // 0 leads to the greatest one, and each other one to the next less
        return x;
    }

    private static void cyclesOfEachSize() {
        for (int size = 1; size <= 14; size++) {
            Sentences.due("all of " + size, ring(size, size).settle(), size);
            Sentences.due(size + " of 14", ring(14, size).settle(), size);
        }
    }

    private static void cycleNotSettled() {
        OrderHall x = Halls.withCycle();
        Sentences.noState("count", () -> x.count(2));
        Sentences.due("settle again", x.settle(), 3);
        Sentences.noState("count behind it", () -> x.count(2));
        OrderHall y = Halls.settled(2, 0, 1);
        y.arc(1, 0);
        y.settle();
        Sentences.noState("compare, where it was settled before", () -> y.compare(0, 1));
    }

    private static void settleLeavesNoSequence() {
        OrderHall x = Halls.withSequence();
        x.settle();
        Sentences.same("settled again", Halls.sequence(x), "none");
        Sentences.due("its number", x.number(), -1);
        Sentences.due("exchange", x.exchange(2), 0);
        OrderHall y = Halls.withSequence();
        y.arc(1, 0);
        y.settle();
        Sentences.same("a cycle", Halls.sequence(y), "none");
        Sentences.due("number with a cycle", y.number(), -1);
    }

    private static void cyclePlaces() {
        for (int size = 1; size <= 14; size++) {
            OrderHall x = ring(14, size);
            x.settle();
            Sentences.due("first place of " + size, x.cycle(0), 0);
            for (int i = 1; i < size; i++) {
                Sentences.due("place " + i + " of " + size, x.cycle(i), size - i);
            }
        }
    }

    private static void cycleNoPlace() {
        for (int size = 1; size <= 14; size++) {
            OrderHall x = ring(14, size);
            x.settle();
            for (int i : new int[] {-1, size, 14, 15, 32, LEAST, GREATEST}) {
                Sentences.due("cycle(" + i + ") of " + size, x.cycle(i), -1);
            }
        }
        // places that a longer one had
        OrderHall y = ring(14, 14);
        y.settle();
        y.arc(3, 3);
        y.settle();
        Sentences.same("THE CYCLE of one", Halls.cycle(y), "3");
    }

    private static void cycleFoundNone() {
        OrderHall x = Halls.hall(2, 0, 1);
        Sentences.due("cycle before settle", x.cycle(0), -1);
        x.arc(1, 0);
        Sentences.due("cycle told, not yet sought", x.cycle(0), -1);
        x.settle();
        Sentences.due("cycle found", x.cycle(1), 1);
        Sentences.due("settle again", x.settle(), 2);
        Sentences.due("cycle found again", x.cycle(1), 1);
        x.drop(1, 0);
        Sentences.due("cycle behind a change", x.cycle(0), -1);
        x.settle();
        Sentences.due("cycle, found none", x.cycle(0), -1);
    }

    // ---- 7, 8, 9: compare, set, level

    private static void comparisons() {
        Sentences.sentence("Promise 7", "0 when a and b are the same, -1 when a < b, 1 when b < a, "
                + "2 when they are apart", BoundaryPromisesTest::compareAnswers);
        Sentences.sentence("Promise 7", "IndexOutOfBoundsException when there is no such element",
                BoundaryPromisesTest::compareRefused);
        Sentences.sentence("Promise 8", "A set that belongs to x (empty)",
                BoundaryPromisesTest::setsEmpty);
        Sentences.sentence("Promise 8", "A set that belongs to x (all others)",
                BoundaryPromisesTest::setsFull);
        Sentences.sentence("Promise 8", "IndexOutOfBoundsException when there is no such element",
                BoundaryPromisesTest::setNoElement);
        Sentences.sentence("Promise 8", "IllegalArgumentException when there is no such what",
                BoundaryPromisesTest::setNoWhat);
        Sentences.sentence("Promise 9", "the largest chain .. that has x as its last one (way 0), "
                + "as its first one (1)", BoundaryPromisesTest::levelsLeastAndMost);
        Sentences.sentence("Promise 9", "IndexOutOfBoundsException when there is no such element",
                BoundaryPromisesTest::levelNoElement);
        Sentences.sentence("Promise 9", "IllegalArgumentException when there is no such way",
                BoundaryPromisesTest::levelNoWay);
    }

    private static void compareAnswers() {
        OrderHall x = Halls.settled(14, 13, 0);
        Sentences.due("compare(13, 13)", x.compare(13, 13), 0);
        Sentences.due("compare(0, 0)", x.compare(0, 0), 0);
        Sentences.due("compare(13, 0)", x.compare(13, 0), -1);
        Sentences.due("compare(0, 13)", x.compare(0, 13), 1);
        Sentences.due("compare(12, 13)", x.compare(12, 13), 2);
        Sentences.due("compare(13, 12)", x.compare(13, 12), 2);
        Sentences.due("compare of one", Halls.settled(1).compare(0, 0), 0);
    }

    private static void compareRefused() {
        for (int n : new int[] {1, 14}) {
            OrderHall x = Halls.chain(n);
            for (int bad : new int[] {-1, n, 32, LEAST, GREATEST}) {
                Sentences.noElement("compare(" + bad + ", 0)", () -> x.compare(bad, 0));
                Sentences.noElement("compare(0, " + bad + ")", () -> x.compare(0, bad));
                Sentences.noElement("compare(" + bad + ", " + bad + ")", () -> x.compare(bad, bad));
            }
        }
    }

    private static void setsEmpty() {
        OrderHall chain = Halls.chain(14);
        Sentences.due("none < 0", chain.set(0, 0), 0);
        Sentences.due("13 < none", chain.set(13, 1), 0);
        Sentences.due("0 covers none", chain.set(0, 2), 0);
        Sentences.due("none covers 13", chain.set(13, 3), 0);
        Sentences.due("0 apart from none", chain.set(0, 4), 0);
        OrderHall apart = Halls.settled(14);
        for (int what = 0; what < 4; what++) {
            Sentences.due("set(13, " + what + "), all apart", apart.set(13, what), 0);
        }
    }

    private static void setsFull() {
        OrderHall top = Halls.hall(14);
        OrderHall bottom = Halls.hall(14);
        for (int e = 0; e < 13; e++) {
            top.arc(e, 13);
            bottom.arc(13, e);
        }
        top.settle();
        bottom.settle();
        Sentences.due("all < 13", top.set(13, 0), 8191);
        Sentences.due("13 covers all", top.set(13, 2), 8191);
        Sentences.due("13 < all", bottom.set(13, 1), 8191);
        Sentences.due("all cover 13", bottom.set(13, 3), 8191);
        Sentences.due("13 apart from all", Halls.settled(14).set(13, 4), 8191);
        Sentences.due("0 apart from all", Halls.settled(14).set(0, 4), 16382);
    }

    private static void setNoElement() {
        for (int n : new int[] {1, 5, 14}) {
            OrderHall x = Halls.settled(n);
            for (int bad : new int[] {-1, n, 32, LEAST, GREATEST}) {
                for (int what = 0; what < 5; what++) {
                    int kind = what;
                    Sentences.noElement("set(" + bad + ", " + what + ")", () -> x.set(bad, kind));
                }
                Sentences.noElement("set, element and what wrong", () -> x.set(bad, 5));
                Sentences.noElement("set, element and what wrong", () -> x.set(bad, -1));
            }
        }
    }

    private static void setNoWhat() {
        for (int n : new int[] {1, 14}) {
            OrderHall x = Halls.settled(n);
            for (int bad : new int[] {-1, 5, 6, 32, LEAST, GREATEST}) {
                Sentences.noArgument("set(0, " + bad + ")", () -> x.set(0, bad));
                Sentences.noArgument("set(last, " + bad + ")", () -> x.set(n - 1, bad));
            }
        }
    }

    private static void levelsLeastAndMost() {
        OrderHall chain = Halls.chain(14);
        OrderHall apart = Halls.settled(14);
        for (int e = 0; e < 14; e++) {
            Sentences.due("level(" + e + ", 0) of a chain", chain.level(e, 0), e + 1);
            Sentences.due("level(" + e + ", 1) of a chain", chain.level(e, 1), 14 - e);
            Sentences.due("level(" + e + ", 0), all apart", apart.level(e, 0), 1);
            Sentences.due("level(" + e + ", 1), all apart", apart.level(e, 1), 1);
        }
    }

    private static void levelNoElement() {
        for (int n : new int[] {1, 14}) {
            OrderHall x = Halls.settled(n);
            for (int bad : new int[] {-1, n, 32, LEAST, GREATEST}) {
                Sentences.noElement("level(" + bad + ", 0)", () -> x.level(bad, 0));
                Sentences.noElement("level(" + bad + ", 1)", () -> x.level(bad, 1));
                Sentences.noElement("level, element and way wrong", () -> x.level(bad, 2));
                Sentences.noElement("level, element and way wrong", () -> x.level(bad, -1));
            }
        }
    }

    private static void levelNoWay() {
        OrderHall x = Halls.settled(14);
        for (int bad : new int[] {-1, 2, 3, 32, LEAST, GREATEST}) {
            Sentences.noArgument("level(0, " + bad + ")", () -> x.level(0, bad));
            Sentences.noArgument("level(13, " + bad + ")", () -> x.level(13, bad));
        }
    }

    // ---- 10, 11: count, antichain

    private static void counts() {
        Sentences.sentence("Promise 10", "The height (what 0), the width (1), how many elements (2)",
                BoundaryPromisesTest::countsOfSize);
        Sentences.sentence("Promise 10", "pairs a < b (3)", BoundaryPromisesTest::countsOfPairs);
        Sentences.sentence("Promise 10", "pairs of which one covers the other (4)",
                BoundaryPromisesTest::countsOfCovers);
        Sentences.sentence("Promise 10", "sets that hold with each element all that are < it (5)",
                BoundaryPromisesTest::countsOfSets);
        Sentences.sentence("Promise 10", "largest antichains (6)",
                BoundaryPromisesTest::countsOfAntichains);
        Sentences.sentence("Promise 10", "IllegalArgumentException when there is no such what",
                BoundaryPromisesTest::countRefused);
        Sentences.sentence("Promise 11", "The HIGHEST (way 0) or LOWEST (1) largest antichain",
                BoundaryPromisesTest::antichainEnds);
        Sentences.sentence("Promise 11", "IllegalArgumentException when there is no such way",
                BoundaryPromisesTest::antichainRefused);
    }

    private static void countsOfSize() {
        for (int n = 1; n <= 14; n++) {
            Sentences.due("height of a chain", Halls.chain(n).count(0), n);
            Sentences.due("width of a chain", Halls.chain(n).count(1), 1);
            Sentences.due("height, all apart", Halls.settled(n).count(0), 1);
            Sentences.due("width, all apart", Halls.settled(n).count(1), n);
            Sentences.due("elements", Halls.settled(n).count(2), n);
        }
    }

    private static void countsOfPairs() {
        Sentences.due("pairs of one", Halls.settled(1).count(3), 0);
        Sentences.due("pairs, all apart", Halls.settled(14).count(3), 0);
        Sentences.due("pairs of a chain", Halls.chain(14).count(3), 91);
        Sentences.due("pairs the other way round", Halls.settled(14, Halls.steps(13, 1, 1)).count(3), 91);
    }

    private static void countsOfCovers() {
        Sentences.due("covers of one", Halls.settled(1).count(4), 0);
        Sentences.due("covers, all apart", Halls.settled(14).count(4), 0);
        Sentences.due("covers of a chain", Halls.chain(14).count(4), 13);
        Sentences.due("covers the other way round", Halls.settled(14, Halls.steps(13, 1, 1)).count(4), 13);
        Sentences.due("covers of the fork, of ten pairs", Halls.fork().count(4), 5);
        Sentences.due("as many covers as there can be", Halls.sevenUnderSeven().count(4), 49);
    }

    private static void countsOfSets() {
        Sentences.due("the empty one and that of all", Halls.settled(1).count(5), 2);
        Sentences.due("sets of a chain", Halls.chain(14).count(5), 15);
        Sentences.due("all sets", Halls.settled(14).count(5), 16384);
        Sentences.due("seven under seven", Halls.sevenUnderSeven().count(5), 255);
        Sentences.due("seven pairs", Halls.sevenPairs().count(5), 2187);
        Sentences.due("with what is <, not with what is above", Halls.settled(3, 0, 1, 0, 2).count(5), 5);
    }

    private static void countsOfAntichains() {
        Sentences.due("one element", Halls.settled(1).count(6), 1);
        Sentences.due("all apart", Halls.settled(14).count(6), 1);
        Sentences.due("a chain", Halls.chain(14).count(6), 14);
        Sentences.due("seven under seven", Halls.sevenUnderSeven().count(6), 2);
        Sentences.due("as many as seven pairs have", Halls.sevenPairs().count(6), 128);
    }

    private static void countRefused() {
        for (int n : new int[] {1, 14}) {
            OrderHall x = Halls.settled(n);
            for (int bad : new int[] {-1, 7, 8, 32, LEAST, GREATEST}) {
                Sentences.noArgument("count(" + bad + ")", () -> x.count(bad));
            }
        }
    }

    private static void antichainEnds() {
        OrderHall one = Halls.settled(1);
        Sentences.due("highest of one", one.antichain(0), 1);
        Sentences.due("lowest of one", one.antichain(1), 1);
        Sentences.due("highest, all apart", Halls.settled(14).antichain(0), Halls.ALL);
        Sentences.due("lowest, all apart", Halls.settled(14).antichain(1), Halls.ALL);
        Sentences.due("highest of a chain", Halls.chain(14).antichain(0), 8192);
        Sentences.due("lowest of a chain", Halls.chain(14).antichain(1), 1);
        Sentences.due("highest of seven pairs", Halls.sevenPairs().antichain(0), 127 << 7);
        Sentences.due("lowest of seven pairs", Halls.sevenPairs().antichain(1), 127);
        OrderHall x = Halls.settled(3);
        Sentences.due("lowest, three apart", x.antichain(1), 7);
        x.arc(0, 1);
        x.arc(0, 2);
        x.settle();
        Sentences.due("lowest, 0 below the others now", x.antichain(1), 6);
    }

    private static void antichainRefused() {
        for (int n : new int[] {1, 14}) {
            OrderHall x = Halls.settled(n);
            for (int bad : new int[] {-1, 2, 3, 32, LEAST, GREATEST}) {
                Sentences.noArgument("antichain(" + bad + ")", () -> x.antichain(bad));
            }
        }
    }

    // ---- 12, 13, 14: most, first, chains

    private static void holdings() {
        Sentences.sentence("Promise 12", "The MOST that k chains (kind 0) or antichains (1) hold",
                BoundaryPromisesTest::mostAtEnds);
        Sentences.sentence("Promise 12", "IllegalArgumentException when there is no such kind",
                BoundaryPromisesTest::mostNoKind);
        Sentences.sentence("Promise 12", "or k is not 0 .. 14", BoundaryPromisesTest::mostNoNumber);
        Sentences.sentence("Promise 13", "The FIRST set that k chains (kind 0) or antichains (1) "
                + "hold", BoundaryPromisesTest::firstAtEnds);
        Sentences.sentence("Promise 13", "IllegalArgumentException likewise (no such kind)",
                BoundaryPromisesTest::firstNoKind);
        Sentences.sentence("Promise 13", "IllegalArgumentException likewise (k is not 0 .. 14)",
                BoundaryPromisesTest::firstNoNumber);
        Sentences.sentence("Promise 14", "(with the empty one for 0)",
                BoundaryPromisesTest::chainsOfNone);
        Sentences.sentence("Promise 14", "(0 above the height)",
                BoundaryPromisesTest::chainsAboveHeight);
        Sentences.sentence("Promise 14", "IllegalArgumentException when m is not 0 .. 14",
                BoundaryPromisesTest::chainsRefused);
    }

    private static void mostAtEnds() {
        OrderHall x = Halls.sevenUnderSeven();
        for (int k = 0; k <= 14; k++) {
            Sentences.due("by " + k + " chains", x.most(0, k), Math.min(2 * k, 14));
            Sentences.due("by " + k + " antichains", x.most(1, k), Math.min(7 * k, 14));
        }
        OrderHall one = Halls.settled(1);
        for (int kind = 0; kind < 2; kind++) {
            Sentences.due("one element by 0", one.most(kind, 0), 0);
            Sentences.due("one element by 1", one.most(kind, 1), 1);
            Sentences.due("one element by 14", one.most(kind, 14), 1);
        }
        OrderHall fewer = Halls.settled(14);
        Sentences.due("14 apart by 14 chains", fewer.most(0, 14), 14);
        fewer.keep(7);
        Sentences.due("three of them by 14 chains", fewer.most(0, 14), 3);
    }

    private static void mostNoKind() {
        OrderHall x = Halls.settled(14);
        for (int bad : new int[] {-1, 2, 3, 32, LEAST, GREATEST}) {
            Sentences.noArgument("most(" + bad + ", 0)", () -> x.most(bad, 0));
            Sentences.noArgument("most(" + bad + ", 14)", () -> x.most(bad, 14));
        }
    }

    private static void mostNoNumber() {
        for (int n : new int[] {1, 14}) {
            OrderHall x = Halls.settled(n);
            for (int bad : new int[] {-1, 15, 16, 32, LEAST, GREATEST}) {
                Sentences.noArgument("most(0, " + bad + ")", () -> x.most(0, bad));
                Sentences.noArgument("most(1, " + bad + ")", () -> x.most(1, bad));
            }
        }
    }

    private static void firstAtEnds() {
        OrderHall x = Halls.sevenUnderSeven();
        for (int k = 0; k <= 14; k++) {
            int side = (1 << Math.min(k, 7)) - 1;
            Sentences.due("by " + k + " chains", x.first(0, k), side << 7 | side);
            int layers = k == 0 ? 0 : k == 1 ? 127 : Halls.ALL;
            Sentences.due("by " + k + " antichains", x.first(1, k), layers);
        }
        OrderHall one = Halls.settled(1);
        for (int kind = 0; kind < 2; kind++) {
            Sentences.due("one element by 0", one.first(kind, 0), 0);
            Sentences.due("one element by 1", one.first(kind, 1), 1);
            Sentences.due("one element by 14", one.first(kind, 14), 1);
        }
    }

    private static void firstNoKind() {
        OrderHall x = Halls.settled(14);
        for (int bad : new int[] {-1, 2, 3, 32, LEAST, GREATEST}) {
            Sentences.noArgument("first(" + bad + ", 0)", () -> x.first(bad, 0));
            Sentences.noArgument("first(" + bad + ", 14)", () -> x.first(bad, 14));
        }
    }

    private static void firstNoNumber() {
        for (int n : new int[] {1, 14}) {
            OrderHall x = Halls.settled(n);
            for (int bad : new int[] {-1, 15, 16, 32, LEAST, GREATEST}) {
                Sentences.noArgument("first(0, " + bad + ")", () -> x.first(0, bad));
                Sentences.noArgument("first(1, " + bad + ")", () -> x.first(1, bad));
            }
        }
    }

    private static void chainsOfNone() {
        for (int n = 1; n <= 14; n++) {
            Sentences.due("chains(0) of a chain of " + n, Halls.chain(n).chains(0), 1);
            Sentences.due("chains(0) of " + n + " apart", Halls.settled(n).chains(0), 1);
            Sentences.due("chains(1) of " + n + " apart", Halls.settled(n).chains(1), n);
        }
    }

    private static void chainsAboveHeight() {
        for (int n = 1; n <= 14; n++) {
            OrderHall x = Halls.chain(n);
            Sentences.due("chains of all " + n, x.chains(n), 1);
            for (int m = n + 1; m <= 14; m++) {
                Sentences.due("chains(" + m + ") of a chain of " + n, x.chains(m), 0);
            }
        }
        Sentences.due("as many as there can be", Halls.chain(14).chains(7), 3432);
        Sentences.due("chains(2) of seven under seven", Halls.sevenUnderSeven().chains(2), 49);
        Sentences.due("chains(3) of seven under seven", Halls.sevenUnderSeven().chains(3), 0);
    }

    private static void chainsRefused() {
        for (int n : new int[] {1, 14}) {
            OrderHall x = Halls.settled(n);
            for (int bad : new int[] {-1, 15, 16, 32, LEAST, GREATEST}) {
                Sentences.noArgument("chains(" + bad + ")", () -> x.chains(bad));
            }
        }
    }

    // ---- 15 to 19: sequences

    private static void sequences() {
        Sentences.sentence("Promise 15", "How many sequences keep the order",
                BoundaryPromisesTest::sequencesFewestAndMost);
        Sentences.sentence("Promise 16", "The sequence with a number is there",
                BoundaryPromisesTest::takeFirstAndLast);
        Sentences.sentence("Promise 16", "(in place of one there)",
                BoundaryPromisesTest::takeInPlace);
        Sentences.sentence("Promise 16", "IllegalArgumentException when there is none such",
                BoundaryPromisesTest::takeRefused);
        Sentences.sentence("Promise 17", "Element i of the sequence",
                BoundaryPromisesTest::atEnds);
        Sentences.sentence("Promise 17", "NONE when there is no such place",
                BoundaryPromisesTest::atNoPlace);
        Sentences.sentence("Promise 17", "(NONE when there is) no sequence",
                BoundaryPromisesTest::atNoSequence);
        Sentences.sentence("Promise 18", "Exchanges the elements at i and i + 1 .. if they are "
                + "apart: 1", BoundaryPromisesTest::exchangeEnds);
        Sentences.sentence("Promise 18", "(the sequence has another number then)",
                BoundaryPromisesTest::exchangeNumber);
        Sentences.sentence("Promise 18", "else 0", BoundaryPromisesTest::exchangeNotApart);
        Sentences.sentence("Promise 18", "(also when there are no such places",
                BoundaryPromisesTest::exchangeNoPlaces);
        Sentences.sentence("Promise 18", "or no sequence)",
                BoundaryPromisesTest::exchangeNoSequence);
        Sentences.sentence("Promise 19", "The number of the sequence",
                BoundaryPromisesTest::numberFirstAndLast);
        Sentences.sentence("Promise 19", "NONE when there is none",
                BoundaryPromisesTest::numberNone);
    }

    private static void sequencesFewestAndMost() {
        long many = 1;
        for (int n = 1; n <= 14; n++) {
            many *= n;
            Sentences.due("sequences of a chain of " + n, Halls.chain(n).sequences(), 1);
            Sentences.due("sequences of " + n + " apart", Halls.settled(n).sequences(), many);
        }
    }

    private static void takeFirstAndLast() {
        OrderHall one = Halls.settled(1);
        one.take(0);
        Sentences.same("the only one of one", Halls.sequence(one), "0");
        OrderHall x = Halls.settled(4, 3, 0);
        x.take(0);
        Sentences.same("the first", Halls.sequence(x), "1 2 3 0");
        x.take(11);
        Sentences.same("the last", Halls.sequence(x), "3 2 1 0");
        OrderHall pairs = Halls.sevenPairs();
        pairs.take(Halls.MANY / 128 - 1);
        Sentences.same("the last of seven pairs", Halls.sequence(pairs),
                "6 13 5 12 4 11 3 10 2 9 1 8 0 7");
    }

    private static void takeInPlace() {
        OrderHall x = Halls.withSequence();
        x.take(0);
        Sentences.same("another one", Halls.sequence(x), "0 1 2 3");
        x.take(0);
        Sentences.same("the same again", Halls.sequence(x), "0 1 2 3");
        x.exchange(1);
        x.take(0);
        Sentences.same("behind an exchange", Halls.sequence(x), "0 1 2 3");
    }

    private static void takeRefused() {
        OrderHall x = Halls.withSequence();
        long many = x.sequences();
        Sentences.due("sequences", many, 8);
        for (long bad : new long[] {-1, 8, 9, LEAST, 1L << 32, (1L << 32) + 1, Long.MIN_VALUE,
            Long.MAX_VALUE}) {
            Sentences.noArgument("take(" + bad + ")", () -> x.take(bad));
        }
        Sentences.same("the one that was there", Halls.sequence(x), "0 1 3 2");
        OrderHall one = Halls.settled(1);
        Sentences.noArgument("take(1) of one", () -> one.take(1));
        Sentences.same("none was there", Halls.sequence(one), "none");
        OrderHall apart = Halls.settled(14);
        Sentences.noArgument("take(14!)", () -> apart.take(Halls.MANY));
    }

    private static void atEnds() {
        OrderHall x = Halls.settled(14);
        x.take(Halls.MANY - 1);
        Sentences.due("at(0)", x.at(0), 13);
        Sentences.due("at(13)", x.at(13), 0);
        OrderHall one = Halls.settled(1);
        one.take(0);
        Sentences.due("at(0) of one", one.at(0), 0);
    }

    private static void atNoPlace() {
        for (int n = 1; n <= 14; n++) {
            OrderHall x = Halls.settled(n);
            x.take(0);
            for (int i : new int[] {-1, n, 14, 15, 32, LEAST, GREATEST}) {
                Sentences.due("at(" + i + ") of " + n, x.at(i), -1);
            }
        }
        OrderHall kept = Halls.settled(14);
        kept.take(0);
        kept.keep(7);
        kept.take(0);
        Sentences.same("fewer places than before", Halls.sequence(kept), "0 1 2");
    }

    private static void atNoSequence() {
        OrderHall x = Halls.settled(14);
        for (int i : new int[] {-1, 0, 13, 14, LEAST, GREATEST}) {
            Sentences.due("at(" + i + "), none taken", x.at(i), -1);
            Sentences.due("at(" + i + ") of a new one", new OrderHall().at(i), -1);
        }
    }

    private static void exchangeEnds() {
        OrderHall x = Halls.settled(14);
        x.take(0);
        Sentences.due("exchange(0)", x.exchange(0), 1);
        Sentences.due("exchange(12)", x.exchange(12), 1);
        Sentences.same("both ends", Halls.sequence(x), "1 0 2 3 4 5 6 7 8 9 10 11 13 12");
        Sentences.due("exchange(0) again", x.exchange(0), 1);
        Sentences.due("exchange(12) again", x.exchange(12), 1);
        Sentences.same("back again", Halls.sequence(x), "0 1 2 3 4 5 6 7 8 9 10 11 12 13");
    }

    private static void exchangeNumber() {
        OrderHall x = Halls.settled(14);
        x.take(0);
        x.exchange(12);
        Sentences.due("number behind exchange(12)", x.number(), 1);
        x.exchange(12);
        x.exchange(0);
        Sentences.due("number behind exchange(0)", x.number(), Halls.MANY / 14);
        OrderHall y = Halls.settled(2);
        y.take(1);
        y.exchange(0);
        Sentences.due("from the last to the first", y.number(), 0);
    }

    private static void exchangeNotApart() {
        OrderHall x = Halls.chain(14);
        x.take(0);
        for (int i = 0; i < 13; i++) {
            Sentences.due("exchange(" + i + ") of a chain", x.exchange(i), 0);
        }
        Sentences.same("as before", Halls.sequence(x), "0 1 2 3 4 5 6 7 8 9 10 11 12 13");
        Sentences.due("its number", x.number(), 0);
        // 0 < 2 by two arcs, and 1 is gone
        OrderHall y = Halls.chain(3);
        y.keep(5);
        y.take(0);
        Sentences.due("exchange of two with none between", y.exchange(0), 0);
    }

    private static void exchangeNoPlaces() {
        for (int n = 1; n <= 14; n++) {
            OrderHall x = Halls.settled(n);
            x.take(0);
            for (int i : new int[] {-1, -2, n - 1, n, 13, 14, LEAST, GREATEST - 1, GREATEST}) {
                Sentences.due("exchange(" + i + ") of " + n, x.exchange(i), 0);
            }
            Sentences.due("number behind it", x.number(), 0);
        }
    }

    private static void exchangeNoSequence() {
        OrderHall x = Halls.settled(14);
        for (int i : new int[] {-1, 0, 12, 13, LEAST, GREATEST}) {
            Sentences.due("exchange(" + i + "), none taken", x.exchange(i), 0);
            Sentences.due("exchange(" + i + ") of a new one", new OrderHall().exchange(i), 0);
        }
        Sentences.same("none then", Halls.sequence(x), "none");
        x.take(0);
        x.settle();
        Sentences.due("exchange behind settle", x.exchange(0), 0);
        Sentences.due("number behind it", x.number(), -1);
    }

    private static void numberFirstAndLast() {
        OrderHall x = Halls.settled(14);
        for (long i : new long[] {0, 1, 2147483647L, 2147483648L, 4294967296L, Halls.MANY - 1}) {
            x.take(i);
            Sentences.due("number", x.number(), i);
        }
        OrderHall one = Halls.settled(1);
        one.take(0);
        Sentences.due("number of one", one.number(), 0);
        OrderHall pairs = Halls.sevenPairs();
        pairs.take(Halls.MANY / 128 - 1);
        Sentences.due("the last number of seven pairs", pairs.number(), Halls.MANY / 128 - 1);
    }

    private static void numberNone() {
        Sentences.due("number of a new one", new OrderHall().number(), -1);
        OrderHall x = Halls.settled(14);
        Sentences.due("number, none taken", x.number(), -1);
        x.sequences();
        Sentences.due("number, counted but none taken", x.number(), -1);
        x.take(3);
        x.settle();
        Sentences.due("number behind settle", x.number(), -1);
    }

    // ---- 20, 21, 22: bound, lattice, sign

    private static void bounds() {
        Sentences.sentence("Promise 20", "The meet (kind 0) or join (1) of a and b",
                BoundaryPromisesTest::boundOfOne);
        Sentences.sentence("Promise 20", "NONE when there is none",
                BoundaryPromisesTest::boundNone);
        Sentences.sentence("Promise 20", "IndexOutOfBoundsException when there is no such element",
                BoundaryPromisesTest::boundNoElement);
        Sentences.sentence("Promise 20", "IllegalArgumentException when there is no such kind",
                BoundaryPromisesTest::boundNoKind);
        Sentences.sentence("Promise 21", "0 when the order is no lattice",
                BoundaryPromisesTest::noLattice);
        Sentences.sentence("Promise 21", "1 when it is one, 2 when it is a distributive one",
                BoundaryPromisesTest::lattices);
        Sentences.sentence("Promise 21", "(as one element is)",
                () -> Sentences.due("lattice of one", Halls.settled(1).lattice(), 2));
        Sentences.sentence("Promise 22", "s(a,b) (0, when they are apart or b < a)",
                BoundaryPromisesTest::signNought);
        Sentences.sentence("Promise 22", "IndexOutOfBoundsException when there is no such element",
                BoundaryPromisesTest::signRefused);
    }

    private static void boundOfOne() {
        OrderHall x = Halls.settled(14);
        for (int e = 0; e < 14; e++) {
            Sentences.due("meet of " + e + " with itself", x.bound(0, e, e), e);
            Sentences.due("join of " + e + " with itself", x.bound(1, e, e), e);
        }
        OrderHall chain = Halls.chain(14);
        Sentences.due("meet of the ends", chain.bound(0, 13, 0), 0);
        Sentences.due("join of the ends", chain.bound(1, 0, 13), 13);
        Sentences.due("meet of one", Halls.settled(1).bound(0, 0, 0), 0);
    }

    private static void boundNone() {
        OrderHall apart = Halls.settled(14);
        Sentences.due("meet of two apart", apart.bound(0, 0, 13), -1);
        Sentences.due("join of two apart", apart.bound(1, 13, 0), -1);
        OrderHall rows = Halls.settled(4, ARCS_OF_TWO_ROWS);
        Sentences.due("meet, two greatest", rows.bound(0, 2, 3), -1);
        Sentences.due("join, two least", rows.bound(1, 0, 1), -1);
        Sentences.due("meet, none below", rows.bound(0, 0, 1), -1);
        Sentences.due("join, none above", rows.bound(1, 2, 3), -1);
    }

    private static void boundNoElement() {
        for (int n : new int[] {1, 14}) {
            OrderHall x = Halls.chain(n);
            for (int bad : new int[] {-1, n, 32, LEAST, GREATEST}) {
                for (int kind : new int[] {0, 1, 2, -1}) {
                    String told = "bound(" + kind + ", ..), " + bad;
                    Sentences.noElement(told + " first", () -> x.bound(kind, bad, 0));
                    Sentences.noElement(told + " second", () -> x.bound(kind, 0, bad));
                    Sentences.noElement(told + " both", () -> x.bound(kind, bad, bad));
                }
            }
        }
    }

    private static void boundNoKind() {
        OrderHall x = Halls.chain(14);
        for (int bad : new int[] {-1, 2, 3, 32, LEAST, GREATEST}) {
            Sentences.noArgument("bound(" + bad + ", 0, 13)", () -> x.bound(bad, 0, 13));
            Sentences.noArgument("bound(" + bad + ", 5, 5)", () -> x.bound(bad, 5, 5));
        }
    }

    private static void noLattice() {
        Sentences.due("two apart", Halls.settled(2).lattice(), 0);
        Sentences.due("14 apart", Halls.settled(14).lattice(), 0);
        Sentences.due("two rows", Halls.settled(4, ARCS_OF_TWO_ROWS).lattice(), 0);
        // a chain of 13, and the last element beside its top
        int[] ends = Halls.steps(13, 1, 0);
        ends[24] = 11;
        Sentences.due("a chain with two tops", Halls.settled(14, ends).lattice(), 0);
    }

    private static void lattices() {
        for (int n = 1; n <= 14; n++) {
            Sentences.due("a chain of " + n, Halls.chain(n).lattice(), 2);
        }
        // as many between 0 and the last as there are
        for (int n = 4; n <= 14; n++) {
            OrderHall x = Halls.hall(n);
            for (int e = 1; e < n - 1; e++) {
                x.arc(0, e);
                x.arc(e, n - 1);
            }
            x.settle();
            Sentences.due(n - 2 + " between", x.lattice(), n == 4 ? 2 : 1);
        }
    }

    private static void signNought() {
        OrderHall x = Halls.settled(14, 13, 0);
        Sentences.due("sign of two apart", x.sign(1, 12), 0);
        Sentences.due("sign where b < a", x.sign(0, 13), 0);
        Sentences.due("sign where a < b", x.sign(13, 0), -1);
        Sentences.due("sign where they are the same", x.sign(12, 12), 1);
        Sentences.due("sign of one", Halls.settled(1).sign(0, 0), 1);
    }

    private static void signRefused() {
        for (int n : new int[] {1, 14}) {
            OrderHall x = Halls.chain(n);
            for (int bad : new int[] {-1, n, 32, LEAST, GREATEST}) {
                Sentences.noElement("sign(" + bad + ", 0)", () -> x.sign(bad, 0));
                Sentences.noElement("sign(0, " + bad + ")", () -> x.sign(0, bad));
                Sentences.noElement("sign(" + bad + ", " + bad + ")", () -> x.sign(bad, bad));
            }
        }
    }

    // ---- 23, 24, 25: turn, keep, check

    private static void others() {
        Sentences.sentence("Promise 23", "All arcs are turned round",
                BoundaryPromisesTest::turnArcs);
        Sentences.sentence("Promise 23", "the order is settled",
                BoundaryPromisesTest::turnSettled);
        Sentences.sentence("Promise 23", "and there is no sequence",
                BoundaryPromisesTest::turnNoSequence);
        Sentences.sentence("Promise 24", "The elements of a set alone stay: numbered anew in their "
                + "order", BoundaryPromisesTest::keepNumbers);
        Sentences.sentence("Promise 24", "with an arc for each a < b (also where none led from a to "
                + "b itself)", BoundaryPromisesTest::keepArcs);
        Sentences.sentence("Promise 24", "the order is settled",
                BoundaryPromisesTest::keepSettled);
        Sentences.sentence("Promise 24", "and there is no sequence",
                BoundaryPromisesTest::keepNoSequence);
        Sentences.sentence("Promise 24", "How many there are", BoundaryPromisesTest::keepAnswers);
        Sentences.sentence("Promise 24", "IllegalArgumentException when the set has no element",
                BoundaryPromisesTest::keepEmpty);
        Sentences.sentence("Promise 24", "(IllegalArgumentException when the set has) one that is "
                + "not there", BoundaryPromisesTest::keepBeyond);
        Sentences.sentence("Promise 25", "for all k from 1 on .. 1", BoundaryPromisesTest::checks);
    }

    private static void turnArcs() {
        OrderHall x = Halls.settled(4, 0, 1, 1, 2, 0, 2, 3, 0);
        x.turn();
        Sentences.same("each arc, and no more", Halls.arcs(x, 4), "0>3 1>0 2>0 2>1");
        OrderHall none = Halls.settled(14);
        none.turn();
        Sentences.due("turn without arcs", none.count(3), 0);
        OrderHall chain = Halls.chain(14);
        chain.turn();
        Sentences.due("a chain turned", chain.compare(13, 0), -1);
        Sentences.due("its lowest", chain.antichain(1), 8192);
        OrderHall one = Halls.settled(1);
        one.turn();
        Sentences.due("one element turned", one.count(2), 1);
        OrderHall twice = Halls.settled(4, 0, 1, 1, 2, 0, 2, 3, 0);
        twice.turn();
        twice.turn();
        Sentences.same("turned twice", Halls.arcs(twice, 4), "0>1 0>2 1>2 3>0");
    }

    private static void turnSettled() {
        OrderHall x = Halls.settled(3, 0, 1, 0, 2);
        Sentences.due("before: what is < than 1", x.set(1, 0), 1);
        Sentences.due("before: sequences", x.sequences(), 2);
        Sentences.due("before: the lowest", x.antichain(1), 6);
        Sentences.due("before: what one antichain holds", x.first(1, 1), 6);
        Sentences.due("before: largest antichains", x.count(6), 1);
        x.turn();
        Sentences.due("what is < than 0", x.set(0, 0), 6);
        Sentences.due("sequences", x.sequences(), 2);
        x.take(0);
        Sentences.same("the first", Halls.sequence(x), "1 2 0");
        Sentences.due("sets with all that are <", x.count(5), 5);
        Sentences.due("the highest", x.antichain(0), 6);
        Sentences.due("largest antichains", x.count(6), 1);
        Sentences.due("cycle", x.cycle(0), -1);
    }

    private static void turnNoSequence() {
        OrderHall x = Halls.withSequence();
        x.turn();
        Sentences.same("turned", Halls.sequence(x), "none");
        Sentences.due("its number", x.number(), -1);
        Sentences.due("exchange", x.exchange(2), 0);
        OrderHall apart = Halls.settled(2);
        apart.take(1);
        apart.turn();
        Sentences.due("turned without arcs", apart.number(), -1);
    }

    private static void keepNumbers() {
        OrderHall x = Halls.chain(14);
        x.arc(13, 0); // 0 is the last one now
        x.drop(0, 1);
        x.settle();
        Sentences.due("the first and the last two", x.keep(1 | 1 << 12 | 1 << 13), 3);
        Sentences.due("12 < 13", x.compare(1, 2), -1);
        Sentences.due("13 < 0", x.compare(2, 0), -1);
        Sentences.noElement("no fourth one", () -> x.compare(0, 3));
        Sentences.noElement("no arc to a fourth one", () -> x.arc(0, 3));
        OrderHall last = Halls.settled(14);
        last.keep(1 << 13);
        Sentences.due("the last alone is 0", last.level(0, 0), 1);
        Sentences.noElement("and no other one", () -> last.level(1, 0));
    }

    private static void keepArcs() {
        OrderHall x = Halls.chain(5);
        x.keep(21); // 0, 2 and 4
        Sentences.same("where no arc led", Halls.arcs(x, 3), "0>1 0>2 1>2");
        OrderHall all = Halls.chain(4);
        all.keep(15);
        Sentences.same("all kept", Halls.arcs(all, 4), "0>1 0>2 0>3 1>2 1>3 2>3");
        OrderHall apart = Halls.settled(4, 0, 1, 0, 2);
        apart.keep(14);
        Sentences.same("none is < another one", Halls.arcs(apart, 3), "none");
    }

    private static void keepSettled() {
        OrderHall x = Halls.settled(4, 0, 1, 0, 2);
        Sentences.due("before: sequences", x.sequences(), 8);
        Sentences.due("before: width", x.count(1), 3);
        Sentences.due("before: the highest", x.antichain(0), 14);
        x.keep(11); // 0, 1 and 3
        Sentences.due("sequences", x.sequences(), 3);
        Sentences.due("width", x.count(1), 2);
        Sentences.due("largest antichains", x.count(6), 2);
        Sentences.due("the lowest", x.antichain(1), 5);
        Sentences.due("what two chains hold", x.first(0, 2), 7);
        Sentences.due("cycle", x.cycle(0), -1);
        x.keep(7);
        Sentences.due("all kept: sequences", x.sequences(), 3);
    }

    private static void keepNoSequence() {
        OrderHall x = Halls.withSequence();
        x.keep(15);
        Sentences.same("all kept", Halls.sequence(x), "none");
        Sentences.due("its number", x.number(), -1);
        Sentences.due("exchange", x.exchange(2), 0);
        OrderHall one = Halls.settled(1);
        one.take(0);
        one.keep(1);
        Sentences.due("one kept of one", one.number(), -1);
    }

    private static void keepAnswers() {
        for (int n = 14; n >= 1; n--) {
            OrderHall x = Halls.chain(14);
            Sentences.due("keep of the last " + n, x.keep(Halls.ALL & ~((1 << 14 - n) - 1)), n);
            Sentences.due("height then", x.count(0), n);
        }
        Sentences.due("keep of one of one", Halls.settled(1).keep(1), 1);
    }

    private static void keepEmpty() {
        for (int n : new int[] {1, 14}) {
            OrderHall x = Halls.settled(n);
            Sentences.noArgument("keep(0) of " + n, () -> x.keep(0));
            Sentences.due("elements behind it", x.count(2), n);
        }
    }

    private static void keepBeyond() {
        for (int n = 1; n <= 14; n++) {
            OrderHall x = Halls.settled(n);
            x.take(0);
            int all = (1 << n) - 1;
            for (int bad : new int[] {1 << n, 1 | 1 << n, 1 | 1 << 14, all + 1 << 1, 1 << 30,
                1 | 1 << 31, -1, LEAST, GREATEST}) {
                Sentences.noArgument("keep(" + bad + ") of " + n, () -> x.keep(bad));
            }
            Sentences.due("elements behind it", x.count(2), n);
            Sentences.due("number behind it", x.number(), 0);
        }
    }

    private static void checks() {
        for (int n = 1; n <= 14; n++) {
            Sentences.due("check of a chain of " + n, Halls.chain(n).check(), 1);
            Sentences.due("check of " + n + " apart", Halls.settled(n).check(), 1);
        }
        Sentences.due("check of the fork", Halls.fork().check(), 1);
        Sentences.due("check of seven under seven", Halls.sevenUnderSeven().check(), 1);
        Sentences.due("check of seven pairs", Halls.sevenPairs().check(), 1);
        OrderHall x = Halls.withSequence();
        x.check();
        Sentences.same("the sequence behind it", Halls.sequence(x), "0 1 3 2");
    }

    public static void main(String[] args) {
        beginnings();
        arcs();
        settling();
        comparisons();
        counts();
        holdings();
        sequences();
        bounds();
        others();
        Sentences.end();
    }
}
