/**
 * A test for each sentence of the document's opening and its 'Terms' that names a boundary case:
 * the least and the most elements, the element itself, the empty set, the ends of a numbering, the
 * calls on an order that is not settled, and the calls that throw.
 */
public final class BoundaryTermsTest {
    private static final int LEAST = Integer.MIN_VALUE;
    private static final int GREATEST = Integer.MAX_VALUE;

    private static void opening() {
        String where = "What it is";
        Sentences.sentence(where, "An object is used for at most 512 calls after it has been made",
                BoundaryTermsTest::callsUpToTheLast);
        Sentences.sentence("The public face", "NONE = -1",
                () -> Sentences.due("NONE", OrderHall.NONE, -1));
    }

    /** begin, 13 arcs, settle: 15 calls; 248 times two more: 511. */
    private static void callsUpToTheLast() {
        OrderHall x = Halls.chain(14);
        for (int i = 0; i < 248; i++) {
            Sentences.due("sequences, call " + (16 + 2 * i), x.sequences(), 1);
            x.turn();
        }
        Sentences.due("compare, call 512", x.compare(0, 13), -1);
    }

    // ---- elements, sets, arcs

    private static void elements() {
        String where = "Terms, elements";
        Sentences.sentence(where, "ELEMENTS are 0 .. n - 1",
                BoundaryTermsTest::firstAndLastElement);
        Sentences.sentence(where, "ELEMENTS are 0 .. n - 1 (none beyond)",
                BoundaryTermsTest::noElementBeyond);
        Sentences.sentence(where, "n from 1 to 14", BoundaryTermsTest::fewestAndMostElements);
        Sentences.sentence(where, "bit x is 1 for those x that are in: the empty set",
                BoundaryTermsTest::emptySets);
        Sentences.sentence(where, "bit x is 1 for those x that are in: the last bit, all bits",
                BoundaryTermsTest::fullSets);
        Sentences.sentence(where, "An ARC leads from one element to one (perhaps the same)",
                BoundaryTermsTest::arcToTheSame);
    }

    private static void firstAndLastElement() {
        for (int n = 1; n <= 14; n++) {
            int last = n - 1;
            OrderHall x = Halls.hall(n);
            Sentences.due("arc to the last of " + n, x.arc(0, last), 1);
            Sentences.due("drop of it", x.drop(0, last), 1);
            x.settle();
            Sentences.due("compare with the last of " + n, x.compare(0, last), n == 1 ? 0 : 2);
            Sentences.due("set of the last of " + n, x.set(last, 0), 0);
            Sentences.due("level of the last of " + n, x.level(last, 1), 1);
            Sentences.due("bound of the last of " + n, x.bound(0, last, last), last);
            Sentences.due("sign of the last of " + n, x.sign(last, last), 1);
        }
    }

    private static void noElementBeyond() {
        for (int n = 1; n <= 14; n++) {
            OrderHall x = Halls.settled(n);
            for (int bad : new int[] {-1, n, n + 32, LEAST, GREATEST}) {
                String told = bad + " of " + n;
                Sentences.noElement("arc " + told, () -> x.arc(bad, bad));
                Sentences.noElement("drop " + told, () -> x.drop(bad, bad));
                Sentences.noElement("compare " + told, () -> x.compare(bad, bad));
                Sentences.noElement("set " + told, () -> x.set(bad, 0));
                Sentences.noElement("level " + told, () -> x.level(bad, 0));
                Sentences.noElement("bound " + told, () -> x.bound(0, bad, bad));
                Sentences.noElement("sign " + told, () -> x.sign(bad, bad));
            }
        }
    }

    private static void fewestAndMostElements() {
        Sentences.due("elements of 1", Halls.settled(1).count(2), 1);
        Sentences.due("elements of 14", Halls.settled(14).count(2), 14);
        Sentences.noArgument("begin(0)", () -> new OrderHall().begin(0));
        Sentences.noArgument("begin(15)", () -> new OrderHall().begin(15));
    }

    private static void emptySets() {
        OrderHall x = Halls.settled(1);
        for (int what = 0; what < 5; what++) {
            Sentences.due("set(0, " + what + ") of one element", x.set(0, what), 0);
        }
    }

    private static void fullSets() {
        OrderHall apart = Halls.settled(14);
        Sentences.due("what 0 is apart from", apart.set(0, 4), Halls.ALL - 1);
        Sentences.due("what 13 is apart from", apart.set(13, 4), 8191);
        Sentences.due("the largest antichain", apart.antichain(0), Halls.ALL);
        Sentences.due("what 14 chains hold", apart.first(0, 14), Halls.ALL);
        OrderHall chain = Halls.chain(14);
        Sentences.due("what is < 13", chain.set(13, 0), 8191);
        Sentences.due("what 0 is < than", chain.set(0, 1), Halls.ALL - 1);
        Sentences.due("the highest largest antichain", chain.antichain(0), 8192);
    }

    private static void arcToTheSame() {
        OrderHall x = Halls.hall(14);
        for (int e = 0; e < 14; e++) {
            Sentences.due("arc to itself", x.arc(e, e), 1);
            Sentences.due("arc to itself again", x.arc(e, e), 0);
        }
        Sentences.due("drop of an arc to itself", x.drop(13, 13), 1);
        Sentences.due("drop of it again", x.drop(13, 13), 0);
    }

    // ---- cycles

    private static void cycles() {
        String where = "Terms, cycles";
        Sentences.sentence(where, "some elements, all different, with arcs .. from the last one to "
                + "the first one", BoundaryTermsTest::closedWaysAlone);
        Sentences.sentence(where, "(an arc from an element to itself makes one alone)",
                BoundaryTermsTest::oneAlone);
        Sentences.sentence(where, "THE CYCLE .. is the one with the fewest elements",
                BoundaryTermsTest::fewestElements);
        Sentences.sentence(where, "written from its least one on",
                BoundaryTermsTest::fromTheLeastOn);
        Sentences.sentence(where, "of those that have as few the one that has the lesser element "
                + "at the first place where they are not the same", BoundaryTermsTest::asFew);
        Sentences.sentence(where, "if there are any: none, and one of all elements",
                BoundaryTermsTest::noneAndOneOfAll);
    }

    private static void closedWaysAlone() {
        // two ways from 0 to 3, and none back
        Sentences.due("two ways", Halls.hall(4, 0, 1, 0, 2, 1, 3, 2, 3).settle(), 0);
        // 0 lies before the cycle and 4 behind it
        OrderHall x = Halls.hall(5, 0, 1, 1, 2, 2, 3, 3, 1, 3, 4);
        Sentences.due("a cycle with ways in and out", x.settle(), 3);
        Sentences.same("it", Halls.cycle(x), "1 2 3");
        // an eight of two cycles of three: no element twice
        OrderHall y = Halls.hall(5, 0, 1, 1, 2, 2, 0, 2, 3, 3, 4, 4, 2);
        Sentences.due("two cycles that meet", y.settle(), 3);
        Sentences.same("the lesser one", Halls.cycle(y), "0 1 2");
    }

    private static void oneAlone() {
        for (int e = 0; e < 14; e++) {
            OrderHall x = Halls.hall(14, 0, 1, 1, 0, e, e);
            Sentences.due("settle with an arc to itself at " + e, x.settle(), 1);
            Sentences.same("THE CYCLE", Halls.cycle(x), "" + e);
        }
        OrderHall one = Halls.hall(1, 0, 0);
        Sentences.due("settle of one element", one.settle(), 1);
        Sentences.same("THE CYCLE of one element", Halls.cycle(one), "0");
    }

    private static void fewestElements() {
        OrderHall x = Halls.hall(5, 0, 1, 1, 2, 2, 0, 3, 4, 4, 3);
        Sentences.due("two rather than three", x.settle(), 2);
        Sentences.same("though the other one has lesser elements", Halls.cycle(x), "3 4");
        OrderHall y = Halls.hall(6, 0, 1, 1, 2, 2, 3, 3, 4, 4, 5, 5, 0, 4, 2);
        Sentences.due("three rather than six that hold them", y.settle(), 3);
        Sentences.same("the lesser one inside", Halls.cycle(y), "2 3 4");
    }

    private static void fromTheLeastOn() {
        OrderHall x = Halls.hall(14, 13, 7, 7, 9, 9, 13);
        x.settle();
        Sentences.same("told from 13 on", Halls.cycle(x), "7 9 13");
        OrderHall y = Halls.hall(14, 13, 9, 9, 7, 7, 13);
        y.settle();
        Sentences.same("the other way round", Halls.cycle(y), "7 13 9");
    }

    private static void asFew() {
        OrderHall first = Halls.hall(6, 1, 2, 2, 1, 0, 5, 5, 0);
        first.settle();
        Sentences.same("lesser at the first place", Halls.cycle(first), "0 5");
        OrderHall second = Halls.hall(5, 0, 3, 3, 1, 1, 0, 0, 2, 2, 4, 4, 0);
        second.settle();
        Sentences.same("lesser at the second place", Halls.cycle(second), "0 2 4");
        OrderHall last = Halls.hall(5, 0, 1, 1, 4, 4, 0, 1, 3, 3, 0);
        last.settle();
        Sentences.same("lesser at the last place", Halls.cycle(last), "0 1 3");
        OrderHall turned = Halls.hall(3, 0, 2, 2, 1, 1, 0, 0, 1, 1, 2, 2, 0);
        turned.drop(0, 2); // 1 and 2, and 0 and 1, are cycles of two now
        turned.settle();
        Sentences.same("two of two elements", Halls.cycle(turned), "0 1");
    }

    private static void noneAndOneOfAll() {
        OrderHall x = Halls.hall(14, Halls.steps(13, 1, 0));
        Sentences.due("settle without a cycle", x.settle(), 0);
        Sentences.same("no cycle", Halls.cycle(x), "none");
        x.arc(13, 0);
        Sentences.due("settle with all on one", x.settle(), 14);
        Sentences.same("all", Halls.cycle(x), "0 1 2 3 4 5 6 7 8 9 10 11 12 13");
    }

    // ---- the order

    private static void order() {
        String where = "Terms, order";
        Sentences.sentence(where, "a < b when one comes from a to b along arcs (one or more)",
                BoundaryTermsTest::oneArcOrMore);
        Sentences.sentence(where, "a and b are APART when .. they are not the same",
                BoundaryTermsTest::notApartFromItself);
        Sentences.sentence(where, "b COVERS a when a < b and no c has a < c and c < b",
                BoundaryTermsTest::coversWithNothingBetween);
        Sentences.sentence(where, "A CHAIN is a set no two elements of which are apart",
                BoundaryTermsTest::smallChains);
        Sentences.sentence(where, "an ANTICHAIN one of which all are",
                BoundaryTermsTest::smallAntichains);
        Sentences.sentence(where, "The HEIGHT .. the WIDTH", BoundaryTermsTest::heightAndWidth);
        Sentences.sentence(where, "the HIGHEST .. each element of every one of them is the same as "
                + "or < some element of it, the LOWEST likewise with >",
                BoundaryTermsTest::highestAndLowest);
        Sentences.sentence(where, "(There is just one of each.)", BoundaryTermsTest::justOne);
    }

    private static void oneArcOrMore() {
        OrderHall x = Halls.chain(14);
        Sentences.due("one arc", x.compare(0, 1), -1);
        Sentences.due("two arcs", x.compare(0, 2), -1);
        Sentences.due("13 arcs", x.compare(0, 13), -1);
        Sentences.due("13 arcs back", x.compare(13, 0), 1);
        Sentences.due("no arc: not < itself", x.compare(5, 5), 0);
        Sentences.due("no arc: not among what is < it", x.set(5, 0), 31);
        Sentences.due("no arc: not among what it is < than", x.set(12, 1), 8192);
        OrderHall y = Halls.settled(14, Halls.steps(13, 1, 1));
        Sentences.due("13 arcs down the numbers", y.compare(13, 0), -1);
    }

    private static void notApartFromItself() {
        OrderHall x = Halls.settled(14);
        for (int e = 0; e < 14; e++) {
            Sentences.due("compare with itself", x.compare(e, e), 0);
            Sentences.due("what it is apart from", x.set(e, 4), Halls.ALL & ~(1 << e));
        }
    }

    private static void coversWithNothingBetween() {
        OrderHall x = Halls.settled(3, 0, 1, 1, 2, 0, 2);
        Sentences.due("2 covers 1 alone, though an arc leads from 0", x.set(2, 2), 2);
        Sentences.due("0 is covered by 1 alone", x.set(0, 3), 2);
        Sentences.due("pairs that cover", x.count(4), 2);
        x.drop(1, 2);
        x.settle();
        Sentences.due("nothing between now", x.set(2, 2), 1);
    }

    private static void smallChains() {
        OrderHall x = Halls.settled(14);
        Sentences.due("the empty chain", x.chains(0), 1);
        Sentences.due("chains of one", x.chains(1), 14);
        Sentences.due("chains of two", x.chains(2), 0);
        Sentences.due("a pair is one", Halls.settled(2, 1, 0).chains(2), 1);
    }

    /** The sets of count(5) are told by their greatest elements: an antichain for each. */
    private static void smallAntichains() {
        Sentences.due("the empty one and those of one", Halls.chain(14).count(5), 15);
        Sentences.due("all sets of them", Halls.settled(14).count(5), 16384);
        Sentences.due("largest ones of one element", Halls.chain(14).count(6), 14);
    }

    private static void heightAndWidth() {
        OrderHall one = Halls.settled(1);
        Sentences.due("height of one", one.count(0), 1);
        Sentences.due("width of one", one.count(1), 1);
        OrderHall chain = Halls.chain(14);
        Sentences.due("height of a chain", chain.count(0), 14);
        Sentences.due("width of a chain", chain.count(1), 1);
        OrderHall apart = Halls.settled(14);
        Sentences.due("height of all apart", apart.count(0), 1);
        Sentences.due("width of all apart", apart.count(1), 14);
    }

    private static void highestAndLowest() {
        // 0 < 1 < 2 beside 3 < 4, and 5 < all: the ends, not what is numbered last
        OrderHall x = Halls.settled(6, 5, 0, 0, 1, 1, 2, 5, 3, 3, 4);
        Sentences.due("highest", x.antichain(0), 1 << 2 | 1 << 4);
        Sentences.due("lowest", x.antichain(1), 1 | 1 << 3);
        // 5 is above all and in no largest one
        OrderHall y = Halls.settled(6, 0, 1, 1, 2, 2, 5, 3, 4, 4, 5);
        Sentences.due("highest below a top", y.antichain(0), 1 << 2 | 1 << 4);
        Sentences.due("lowest below a top", y.antichain(1), 1 | 1 << 3);
    }

    private static void justOne() {
        OrderHall alone = Halls.settled(5, 0, 1, 0, 2, 1, 3, 2, 3);
        Sentences.due("one largest antichain", alone.count(6), 1);
        Sentences.due("it is the highest", alone.antichain(0), 22);
        Sentences.due("it is the lowest", alone.antichain(1), 22);
        // 0 < 2, 1 < 2, 1 < 3: of {0, 1}, {0, 3} and {2, 3} the one in the middle is neither
        OrderHall three = Halls.settled(4, 0, 2, 1, 2, 1, 3);
        Sentences.due("three largest antichains", three.count(6), 3);
        Sentences.due("the highest of three", three.antichain(0), 12);
        Sentences.due("the lowest of three", three.antichain(1), 3);
    }

    // ---- what is held

    private static void held() {
        String where = "Terms, held";
        Sentences.sentence(where, "unions of k of them (some perhaps empty)",
                BoundaryTermsTest::someEmpty);
        Sentences.sentence(where, "k 0: the empty set", BoundaryTermsTest::heldByNone);
        Sentences.sentence(where, "the MOST is how many elements the largest of these have",
                BoundaryTermsTest::mostByOneMore);
        Sentences.sentence(where, "the FIRST is, of those that have so many, the one that is the "
                + "least number", BoundaryTermsTest::leastNumber);
    }

    private static void someEmpty() {
        OrderHall one = Halls.settled(1);
        OrderHall chain = Halls.chain(14);
        OrderHall apart = Halls.settled(14);
        for (int k = 1; k <= 14; k++) {
            Sentences.due("one element by " + k + " chains", one.most(0, k), 1);
            Sentences.due("one element by " + k + " antichains", one.first(1, k), 1);
            Sentences.due("a chain by " + k + " chains", chain.most(0, k), 14);
            Sentences.due("a chain by " + k + " chains: the set", chain.first(0, k), Halls.ALL);
            Sentences.due("all apart by " + k + " antichains", apart.most(1, k), 14);
            Sentences.due("all apart: the set", apart.first(1, k), Halls.ALL);
        }
    }

    private static void heldByNone() {
        for (int n = 1; n <= 14; n++) {
            OrderHall x = Halls.chain(n);
            for (int kind = 0; kind < 2; kind++) {
                Sentences.due("most by none of kind " + kind, x.most(kind, 0), 0);
                Sentences.due("first by none of kind " + kind, x.first(kind, 0), 0);
            }
        }
    }

    private static void mostByOneMore() {
        OrderHall chain = Halls.chain(14);
        OrderHall apart = Halls.settled(14);
        for (int k = 0; k <= 14; k++) {
            Sentences.due("a chain by " + k + " antichains", chain.most(1, k), k);
            Sentences.due("all apart by " + k + " chains", apart.most(0, k), k);
        }
        // the largest chain 0 1 2 3 is none of two that hold all
        Sentences.due("the fork by two chains", Halls.fork().most(0, 2), 6);
    }

    private static void leastNumber() {
        OrderHall chain = Halls.chain(14);
        OrderHall apart = Halls.settled(14);
        for (int k = 0; k <= 14; k++) {
            Sentences.due("a chain by " + k + " antichains", chain.first(1, k), (1 << k) - 1);
            Sentences.due("all apart by " + k + " chains", apart.first(0, k), (1 << k) - 1);
        }
        OrderHall pairs = Halls.settled(4, 3, 2, 1, 0);
        Sentences.due("one chain of two as large", pairs.first(0, 1), 3);
        Sentences.due("one antichain of four as large", pairs.first(1, 1), 5);
        OrderHall larger = Halls.settled(4, 3, 2, 2, 1);
        Sentences.due("the largest one rather than the least number", larger.first(0, 1), 14);
    }

    // ---- sequences, bounds, signs

    private static void sequences() {
        String where = "Terms, sequences";
        Sentences.sentence(where, "A SEQUENCE of all elements KEEPS the order when a stands before "
                + "b whenever a < b", BoundaryTermsTest::oneSequenceAndAll);
        Sentences.sentence(where, "They are numbered from 0 on by their elements",
                BoundaryTermsTest::numberedFromNought);
        Sentences.sentence(where, "the one that has the lesser element at the first place where "
                + "they are not the same comes first", BoundaryTermsTest::firstPlaceCounts);
    }

    private static void oneSequenceAndAll() {
        OrderHall down = Halls.settled(14, Halls.steps(13, 1, 1));
        Sentences.due("one sequence", down.sequences(), 1);
        down.take(0);
        Sentences.same("it", Halls.sequence(down), "13 12 11 10 9 8 7 6 5 4 3 2 1 0");
        Sentences.due("all sequences", Halls.settled(14).sequences(), Halls.MANY);
    }

    private static void numberedFromNought() {
        OrderHall x = Halls.settled(14);
        x.take(0);
        Sentences.same("the first", Halls.sequence(x), "0 1 2 3 4 5 6 7 8 9 10 11 12 13");
        x.take(Halls.MANY - 1);
        Sentences.same("the last", Halls.sequence(x), "13 12 11 10 9 8 7 6 5 4 3 2 1 0");
        Sentences.noArgument("take before the first", () -> x.take(-1));
        Sentences.noArgument("take behind the last", () -> x.take(Halls.MANY));
    }

    private static void firstPlaceCounts() {
        OrderHall x = Halls.settled(3, 2, 0);
        String[] want = {"1 2 0", "2 0 1", "2 1 0"};
        for (int i = 0; i < want.length; i++) {
            x.take(i);
            Sentences.same("sequence " + i, Halls.sequence(x), want[i]);
        }
    }

    private static void bounds() {
        String where = "Terms, bounds and signs";
        Sentences.sentence(where, "The MEET .. is the element that is < or the same as both",
                BoundaryTermsTest::meetIsOneOfThem);
        Sentences.sentence(where, "such that all others that are so are < it",
                BoundaryTermsTest::meetAboveAllOthers);
        Sentences.sentence(where, "the JOIN likewise with >", BoundaryTermsTest::joinLikewise);
        Sentences.sentence(where, "A LATTICE has meets and joins for all pairs",
                BoundaryTermsTest::allPairs);
        Sentences.sentence(where, "DISTRIBUTIVE .. always", BoundaryTermsTest::always);
        Sentences.sentence(where, "s(a,a) is 1", BoundaryTermsTest::signOfItself);
        Sentences.sentence(where, "for a < b: s(a,b) is 0 less all s(a,c) with c the same as a or "
                + "a < c, and c < b", BoundaryTermsTest::signByWhatLiesBetween);
        Sentences.sentence(where, "else 0", BoundaryTermsTest::signElse);
    }

    private static void meetIsOneOfThem() {
        OrderHall x = Halls.chain(14);
        Sentences.due("meet of 13 and 13", x.bound(0, 13, 13), 13);
        Sentences.due("meet of 0 and 0", x.bound(0, 0, 0), 0);
        Sentences.due("meet of 0 and 13", x.bound(0, 0, 13), 0);
        Sentences.due("meet of 13 and 0", x.bound(0, 13, 0), 0);
        Sentences.due("meet of one alone", Halls.settled(2).bound(0, 1, 1), 1);
    }

    /** 0 and 1 each below 2 and 3: neither of them is above the other. */
    private static void meetAboveAllOthers() {
        OrderHall x = Halls.settled(4, 0, 2, 0, 3, 1, 2, 1, 3);
        Sentences.due("two that are so, apart", x.bound(0, 2, 3), -1);
        Sentences.due("none that is so", x.bound(0, 0, 1), -1);
        x.arc(0, 1);
        x.settle();
        Sentences.due("two that are so, one < the other", x.bound(0, 2, 3), 1);
    }

    private static void joinLikewise() {
        OrderHall x = Halls.settled(4, 0, 2, 0, 3, 1, 2, 1, 3);
        Sentences.due("two that are so, apart", x.bound(1, 0, 1), -1);
        Sentences.due("none that is so", x.bound(1, 2, 3), -1);
        x.arc(2, 3);
        x.settle();
        Sentences.due("two that are so, one < the other", x.bound(1, 0, 1), 2);
        Sentences.due("join of 0 and 0", x.bound(1, 0, 0), 0);
        Sentences.due("join of 3 and 0", x.bound(1, 3, 0), 3);
    }

    private static void allPairs() {
        Sentences.due("meets for all alone", Halls.settled(3, 0, 1, 0, 2).lattice(), 0);
        Sentences.due("joins for all alone", Halls.settled(3, 1, 0, 2, 0).lattice(), 0);
        Sentences.due("no pair", Halls.settled(1).lattice(), 2);
        Sentences.due("one pair without either", Halls.settled(2).lattice(), 0);
        Sentences.due("one pair with both", Halls.settled(2, 1, 0).lattice(), 2);
        // all pairs but 1 and 2, which have two least ones above them
        Sentences.due("all pairs but one",
                Halls.settled(6, 0, 1, 0, 2, 1, 3, 1, 4, 2, 3, 2, 4, 3, 5, 4, 5).lattice(), 0);
    }

    private static void always() {
        // 1, 2 and 3 apart between 0 and 4
        Sentences.due("three between", Halls.settled(5, 0, 1, 0, 2, 0, 3, 1, 4, 2, 4, 3, 4).lattice(), 1);
        // 1 < 2 beside 3, between 0 and 4: not so for one a alone, whichever number it has
        for (int by = 0; by < 5; by++) {
            OrderHall x = Halls.settled(5, numberedOn(by, 0, 1, 1, 2, 0, 3, 2, 4, 3, 4));
            Sentences.due("two beside one, numbered on by " + by, x.lattice(), 1);
        }
        Sentences.due("one beside one", Halls.settled(4, 0, 1, 0, 2, 1, 3, 2, 3).lattice(), 2);
        Sentences.due("14 one above the other", Halls.chain(14).lattice(), 2);
    }

    /** The arcs of five elements with each number so much greater, and 0 behind 4. */
    private static int[] numberedOn(int by, int... ends) {
        for (int i = 0; i < ends.length; i++) {
            ends[i] = (ends[i] + by) % 5;
        }
        return ends;
    }

    private static void signOfItself() {
        for (int e = 0; e < 14; e++) {
            Sentences.due("sign of " + e + " in a chain", Halls.chain(14).sign(e, e), 1);
            Sentences.due("sign of " + e + " alone", Halls.settled(14).sign(e, e), 1);
        }
    }

    private static void signByWhatLiesBetween() {
        OrderHall chain = Halls.chain(14);
        Sentences.due("nothing between", chain.sign(0, 1), -1);
        Sentences.due("one between", chain.sign(0, 2), 0);
        Sentences.due("twelve in a chain between", chain.sign(0, 13), 0);
        int[] ends = new int[48];
        for (int i = 1; i <= 12; i++) {
            ends[4 * i - 4] = 0;
            ends[4 * i - 3] = i;
            ends[4 * i - 2] = i;
            ends[4 * i - 1] = 13;
        }
        Sentences.due("twelve apart between", Halls.settled(14, ends).sign(0, 13), 11);
    }

    private static void signElse() {
        OrderHall x = Halls.settled(3, 0, 1);
        Sentences.due("b < a", x.sign(1, 0), 0);
        Sentences.due("apart", x.sign(0, 2), 0);
        Sentences.due("apart the other way round", x.sign(2, 0), 0);
        Sentences.due("13 < .. < 0", Halls.chain(14).sign(13, 0), 0);
    }

    // ---- settled or not

    private static void states() {
        String where = "Terms, settled";
        Sentences.sentence(where, "All but begin(), arc(), drop(), settle() and cycle() want an "
                + "order that is SETTLED .. else they throw IllegalStateException",
                BoundaryTermsTest::wantSettled);
        Sentences.sentence(where, "(All but) begin(), arc(), drop(), settle() and cycle()",
                BoundaryTermsTest::wantNothing);
        Sentences.sentence(where, "settle() was called since the last change of arcs",
                BoundaryTermsTest::settledSinceTheLastChange);
        Sentences.sentence(where, "and there is no cycle", BoundaryTermsTest::settledInVain);
        Sentences.sentence(where, "(before they look at their arguments)",
                BoundaryTermsTest::beforeArguments);
        Sentences.sentence(where, "if they list it", BoundaryTermsTest::thoseThatListItNot);
        Sentences.sentence(where, "A change of arcs leaves no sequence",
                BoundaryTermsTest::changeLeavesNoSequence);
        Sentences.sentence(where, "A change of arcs leaves .. no CYCLE",
                BoundaryTermsTest::changeLeavesNoCycle);
    }

    private static void allThrow(String when, OrderHall x, int value) {
        String told = when + ", " + value + ": ";
        Sentences.noState(told + "compare", () -> x.compare(value, value));
        Sentences.noState(told + "set", () -> x.set(value, value));
        Sentences.noState(told + "level", () -> x.level(value, value));
        Sentences.noState(told + "count", () -> x.count(value));
        Sentences.noState(told + "antichain", () -> x.antichain(value));
        Sentences.noState(told + "most", () -> x.most(value, value));
        Sentences.noState(told + "first", () -> x.first(value, value));
        Sentences.noState(told + "chains", () -> x.chains(value));
        Sentences.noState(told + "sequences", x::sequences);
        Sentences.noState(told + "take", () -> x.take(value));
        Sentences.noState(told + "bound", () -> x.bound(value, value, value));
        Sentences.noState(told + "lattice", x::lattice);
        Sentences.noState(told + "sign", () -> x.sign(value, value));
        Sentences.noState(told + "turn", x::turn);
        Sentences.noState(told + "keep", () -> x.keep(value));
        Sentences.noState(told + "check", x::check);
    }

    private static void wantSettled() {
        allThrow("new", new OrderHall(), 0);
        allThrow("begun", Halls.hall(14), 0);
        allThrow("begun, a set that would do", Halls.hall(2), 1);
    }

    private static void wantNothing() {
        OrderHall x = new OrderHall();
        Sentences.due("cycle of a new one", x.cycle(0), -1);
        x.begin(2);
        Sentences.due("arc", x.arc(0, 1), 1);
        Sentences.due("drop", x.drop(0, 1), 1);
        Sentences.due("settle", x.settle(), 0);
        x.arc(1, 1);
        x.settle();
        Sentences.due("cycle, not settled", x.cycle(0), 1);
        Sentences.due("arc, not settled", x.arc(0, 1), 1);
        Sentences.due("drop, not settled", x.drop(1, 1), 1);
        x.begin(3);
        Sentences.due("settle behind begin", x.settle(), 0);
    }

    private static void settledSinceTheLastChange() {
        OrderHall x = Halls.settled(3, 0, 1);
        x.arc(1, 2);
        allThrow("an arc more", x, 0);
        x.settle();
        x.drop(0, 1);
        allThrow("an arc less", x, 0);
        x.settle();
        x.begin(3);
        allThrow("begun anew", x, 0);
        x.settle();
        Sentences.due("settled again", x.count(3), 0);
        x.turn();
        Sentences.due("turned: settled", x.count(2), 3);
        x.keep(3);
        Sentences.due("kept: settled", x.count(2), 2);
    }

    private static void settledInVain() {
        OrderHall x = Halls.withCycle();
        allThrow("a cycle", x, 0);
        allThrow("a cycle", x, 1);
        x.settle();
        allThrow("a cycle, settled twice in vain", x, 0);
        x.drop(3, 1);
        allThrow("the cycle is gone, not settled yet", x, 0);
        x.settle();
        Sentences.due("the cycle is gone", x.count(0), 4);
    }

    private static void beforeArguments() {
        for (int bad : new int[] {-1, 14, 15, 99, LEAST, GREATEST}) {
            allThrow("new", new OrderHall(), bad);
            allThrow("a cycle", Halls.withCycle(), bad);
        }
    }

    private static void thoseThatListItNot() {
        for (OrderHall x : new OrderHall[] {new OrderHall(), Halls.hall(14), Halls.withCycle()}) {
            for (int i : new int[] {0, 1, -1, 14, LEAST, GREATEST}) {
                Sentences.due("at(" + i + "), not settled", x.at(i), -1);
                Sentences.due("exchange(" + i + "), not settled", x.exchange(i), 0);
            }
            Sentences.due("number(), not settled", x.number(), -1);
        }
    }

    private interface Change {
        void make(OrderHall x);
    }

    private static void noSequenceBehind(String what, Change change) {
        OrderHall x = Halls.withSequence();
        Sentences.same("before " + what, Halls.sequence(x), "0 1 3 2");
        change.make(x);
        Sentences.same("behind " + what, Halls.sequence(x), "none");
        Sentences.due("number behind " + what, x.number(), -1);
        for (int i = 0; i < 4; i++) {
            Sentences.due("exchange(" + i + ") behind " + what, x.exchange(i), 0);
        }
        x.settle();
        Sentences.same("behind " + what + " and settle", Halls.sequence(x), "none");
        Sentences.due("number behind " + what + " and settle", x.number(), -1);
    }

    private static void changeLeavesNoSequence() {
        noSequenceBehind("begin(4)", x -> x.begin(4));
        noSequenceBehind("an arc more", x -> x.arc(1, 2));
        noSequenceBehind("an arc that was there", x -> x.arc(0, 1));
        noSequenceBehind("an arc to itself", x -> x.arc(3, 3));
        noSequenceBehind("an arc less", x -> x.drop(0, 1));
        noSequenceBehind("an arc that was not there", x -> x.drop(1, 0));
        noSequenceBehind("turn()", OrderHall::turn);
        noSequenceBehind("keep(15)", x -> x.keep(15));
    }

    private static void noCycleBehind(String what, Change change) {
        OrderHall x = Halls.withCycle();
        Sentences.same("before " + what, Halls.cycle(x), "1 2 3");
        change.make(x);
        Sentences.same("behind " + what, Halls.cycle(x), "none");
    }

    private static void changeLeavesNoCycle() {
        noCycleBehind("begin(4)", x -> x.begin(4));
        noCycleBehind("an arc more", x -> x.arc(0, 2));
        noCycleBehind("an arc that was there", x -> x.arc(0, 1));
        noCycleBehind("an arc less", x -> x.drop(0, 1));
        noCycleBehind("an arc of it less", x -> x.drop(3, 1));
        noCycleBehind("an arc that was not there", x -> x.drop(1, 0));
    }

    // ---- what throws changes nothing

    private static void refusals() {
        String where = "Terms, refusals";
        Sentences.sentence(where, "What throws changes nothing (the order and its sequence)",
                BoundaryTermsTest::refusedWithSequence);
        Sentences.sentence(where, "What throws changes nothing (THE CYCLE)",
                BoundaryTermsTest::refusedWithCycle);
        Sentences.sentence(where, "What throws changes nothing (the arcs of an order that is not "
                + "settled)", BoundaryTermsTest::refusedUnsettled);
        Sentences.sentence(where, "What throws changes nothing (a new object)",
                BoundaryTermsTest::refusedNew);
    }

    private static void tried(Change call, OrderHall x) {
        try {
            call.make(x);
        } catch (RuntimeException e) {
            return;
        }
        Sentences.due("a call that is due to throw", 0, 1);
    }

    private static void refuse(OrderHall x, int bad) {
        tried(y -> y.begin(bad), x);
        tried(y -> y.arc(bad, 0), x);
        tried(y -> y.arc(0, bad), x);
        tried(y -> y.drop(bad, 1), x);
        tried(y -> y.drop(0, bad), x);
        tried(y -> y.compare(0, bad), x);
        tried(y -> y.set(bad, 0), x);
        tried(y -> y.set(0, bad), x);
        tried(y -> y.level(0, bad), x);
        tried(y -> y.count(bad), x);
        tried(y -> y.antichain(bad), x);
        tried(y -> y.most(0, bad), x);
        tried(y -> y.first(bad, 0), x);
        tried(y -> y.chains(bad), x);
        tried(y -> y.take(bad), x);
        tried(y -> y.bound(bad, 0, 0), x);
        tried(y -> y.sign(bad, 0), x);
        tried(y -> y.keep(bad), x);
    }

    /** Numbers that are nothing to any call: no element, no kind, no set, no number. */
    private static void refuseAll(OrderHall x) {
        refuse(x, -1);
        refuse(x, 1 << 20);
        refuse(x, GREATEST);
        refuse(x, LEAST);
    }

    private static void refuseState(OrderHall x) {
        tried(OrderHall::sequences, x);
        tried(y -> y.take(0), x);
        tried(OrderHall::turn, x);
        tried(y -> y.keep(1), x);
        tried(OrderHall::check, x);
        tried(OrderHall::lattice, x);
    }

    private static void refusedWithSequence() {
        OrderHall x = Halls.withSequence();
        String before = Halls.seen(x);
        refuseAll(x);
        Sentences.same("behind all that throws", Halls.seen(x), before);
        Sentences.due("exchange behind it", x.exchange(2), 1);
        Sentences.same("the arcs", Halls.arcs(x, 4), "0>1 0>2");
    }

    private static void refusedWithCycle() {
        OrderHall x = Halls.withCycle();
        String before = Halls.seen(x);
        refuseAll(x);
        refuseState(x);
        Sentences.same("behind all that throws", Halls.seen(x), before);
        Sentences.due("settle behind it", x.settle(), 3);
        Sentences.same("the arcs", Halls.arcs(x, 4), "0>1 1>2 2>3 3>1");
    }

    private static void refusedUnsettled() {
        OrderHall x = Halls.hall(4, 3, 1, 1, 0, 3, 2);
        refuseAll(x);
        refuseState(x);
        Sentences.same("behind all that throws", Halls.seen(x),
                "cycle none, sequence none, number -1, not settled");
        Sentences.same("the arcs", Halls.arcs(x, 4), "1>0 3>1 3>2");
    }

    private static void refusedNew() {
        OrderHall x = new OrderHall();
        refuse(x, -1);
        refuse(x, 15);
        refuseState(x);
        Sentences.same("behind all that throws", Halls.seen(x), Halls.seen(new OrderHall()));
        Sentences.due("settle behind it", x.settle(), 0);
        Sentences.due("elements behind it", x.count(2), 1);
    }

    public static void main(String[] args) {
        opening();
        elements();
        cycles();
        order();
        held();
        sequences();
        bounds();
        states();
        refusals();
        Sentences.end();
    }
}
