/** The edges that promises 19 to 23 name, a test for each sentence. */
public final class EdgesWaysTest {
    private static final int BAD = ArrowStore.BAD;
    private static final int NONE = ArrowStore.NONE;
    private static final int LEAST = Integer.MIN_VALUE;
    private static final int GREATEST = Integer.MAX_VALUE;
    private static final int[] NOT_TYPES = {LEAST, -4, -1, 5, 6, 8, 16, GREATEST};
    private static final int[] NOT_ENDS = {LEAST, -144, -13, -12, -1, 144, 145, 156, 720, GREATEST};
    private static final Checks CHECKS = new Checks("EdgesWaysTest");

    public static void main(String[] args) {
        distanceEndsNotAsInArrow();
        distanceTypeNotGood();
        distanceOneDoesNotComeThere();
        distanceIs0ForTheSame();
        distanceOfTheLongestWay();
        distanceTheLeastNumber();
        cheapestEndsNotAsInArrow();
        cheapestTypeNotGood();
        cheapestOneDoesNotComeThere();
        cheapestIs0ForTheSame();
        cheapestOfTheDearestWay();
        cheapestForNothing();
        cheapestTheLeastSum();
        roundsTypeNotGood();
        roundsOfNoNodes();
        roundsOfOneNode();
        roundsWithoutArrows();
        roundsFromEachToTheOther();
        roundsOfOneType();
        roundsOfAllNodes();
        roundsThroughOneNode();
        faultsAlways0();
        digestOfNone();
        digestOfEachNode();
        digestOfEachArrow();
        digestWrapsInANode();
        digestWrapsInTheSum();
        digestOfAll();
        CHECKS.finish();
    }

    // ---- promise 19 ----

    /** "ends is as in arrow ...: BAD", which is: wrong as it is wrong in arrow */
    private static void distanceEndsNotAsInArrow() {
        for (int ends : NOT_ENDS) {
            CHECKS.refused("distance(" + ends + ", 4)", Stores.FULL, x -> x.distance(ends, 4), BAD);
        }
        for (int n = 8; n <= 11; n++) {
            int from = Checks.ends(n, 0);
            int to = Checks.ends(0, n);
            int both = Checks.ends(n, n);
            CHECKS.refused("distance(" + from + ", 4)", Stores.BUSY, x -> x.distance(from, 4), BAD);
            CHECKS.refused("distance(" + to + ", 4)", Stores.BUSY, x -> x.distance(to, 4), BAD);
            CHECKS.refused("distance(" + both + ", 4)", Stores.BUSY, x -> x.distance(both, 4), BAD);
        }
        CHECKS.refused("distance(0, 4)", Stores.EMPTY, x -> x.distance(0, 4), BAD);
    }

    /** "or type is not good: BAD" */
    private static void distanceTypeNotGood() {
        for (int type : NOT_TYPES) {
            CHECKS.refused("distance(1, " + type + ")", Stores.BUSY, x -> x.distance(1, type), BAD);
            CHECKS.refused("distance(0, " + type + ")", Stores.BUSY, x -> x.distance(0, type), BAD);
        }
    }

    /** "one does not come there: NONE" */
    private static void distanceOneDoesNotComeThere() {
        for (int type = 0; type <= 4; type++) {
            int some = type;
            CHECKS.refused("distance(5, " + type + ")", Stores.BUSY, x -> x.distance(5, some), NONE);
        }
        ArrowStore x = wayThroughAll(0, 0);
        CHECKS.due("against the arrows", x.distance(Checks.ends(11, 0), 0), NONE);
        CHECKS.due("by another type", x.distance(Checks.ends(0, 11), 1), NONE);
        x.cut(10);
        CHECKS.due("the last arrow is cut", x.distance(Checks.ends(0, 11), 0), NONE);
        CHECKS.due("up to there", x.distance(Checks.ends(0, 10), 0), 10);
    }

    /** "(0 for the same)" */
    private static void distanceIs0ForTheSame() {
        ArrowStore none = Checks.storeWithNodes(12);
        ArrowStore all = Stores.FULL.apply(0);
        for (int n = 0; n <= 11; n++) {
            for (int type = 0; type <= 4; type++) {
                CHECKS.due("distance to the same, no arrows", none.distance(13 * n, type), 0);
                CHECKS.due("distance to the same", all.distance(13 * n, type), 0);
            }
        }
        CHECKS.due("distance to the same, with one to itself", Stores.loops(1).distance(0, 0), 0);
    }

    /** Arrow n goes from node n to n + 1, for all nodes but the last. */
    private static ArrowStore wayThroughAll(int type, int weight) {
        ArrowStore x = Checks.storeWithNodes(12);
        for (int n = 0; n < 11; n++) {
            x.arrow(Checks.ends(n, n + 1), type, weight);
        }
        return x;
    }

    /** Arrow k goes to node 11 - k from the one before it: the arrows against their order. */
    private static ArrowStore wayThroughAllFromBehind(int type, int weight) {
        ArrowStore x = Checks.storeWithNodes(12);
        for (int n = 10; n >= 0; n--) {
            x.arrow(Checks.ends(n, n + 1), type, weight);
        }
        return x;
    }

    private static void distanceOfTheLongestWay() {
        for (int type = 0; type <= 3; type++) {
            ArrowStore x = wayThroughAll(type, 99);
            ArrowStore y = wayThroughAllFromBehind(type, 0);
            for (int n = 0; n <= 11; n++) {
                CHECKS.due("distance 0 -> " + n, x.distance(n, type), n);
                CHECKS.due("distance 0 -> " + n + " by any", x.distance(n, 4), n);
                CHECKS.due("distance 0 -> " + n + ", from behind", y.distance(n, type), n);
            }
        }
    }

    /** "The least number of arrows", which need not be the least sum of weights */
    private static void distanceTheLeastNumber() {
        ArrowStore x = wayThroughAll(0, 0);
        x.arrow(Checks.ends(0, 11), 0, 99);
        CHECKS.due("by one dear arrow", x.distance(11, 0), 1);
        x.cut(11);
        x.arrow(Checks.ends(0, 10), 1, 99);
        CHECKS.due("by two of any type", x.distance(11, 4), 2);
        CHECKS.due("by one type only", x.distance(11, 0), 11);
    }

    // ---- promise 20 ----

    /** "ends is as in arrow ...: BAD", which is: wrong as it is wrong in arrow */
    private static void cheapestEndsNotAsInArrow() {
        for (int ends : NOT_ENDS) {
            CHECKS.refused("cheapest(" + ends + ", 4)", Stores.FULL, x -> x.cheapest(ends, 4), BAD);
        }
        for (int n = 8; n <= 11; n++) {
            int from = Checks.ends(n, 0);
            int to = Checks.ends(0, n);
            int both = Checks.ends(n, n);
            CHECKS.refused("cheapest(" + from + ", 4)", Stores.BUSY, x -> x.cheapest(from, 4), BAD);
            CHECKS.refused("cheapest(" + to + ", 4)", Stores.BUSY, x -> x.cheapest(to, 4), BAD);
            CHECKS.refused("cheapest(" + both + ", 4)", Stores.BUSY, x -> x.cheapest(both, 4), BAD);
        }
        CHECKS.refused("cheapest(0, 4)", Stores.EMPTY, x -> x.cheapest(0, 4), BAD);
    }

    /** "or type is not good: BAD" */
    private static void cheapestTypeNotGood() {
        for (int type : NOT_TYPES) {
            CHECKS.refused("cheapest(1, " + type + ")", Stores.BUSY, x -> x.cheapest(1, type), BAD);
            CHECKS.refused("cheapest(0, " + type + ")", Stores.BUSY, x -> x.cheapest(0, type), BAD);
        }
    }

    /** "one does not come there: NONE" */
    private static void cheapestOneDoesNotComeThere() {
        for (int type = 0; type <= 4; type++) {
            int some = type;
            CHECKS.refused("cheapest(5, " + type + ")", Stores.BUSY, x -> x.cheapest(5, some), NONE);
        }
        ArrowStore x = wayThroughAll(3, 0);
        CHECKS.due("against the arrows", x.cheapest(Checks.ends(11, 0), 3), NONE);
        CHECKS.due("by another type", x.cheapest(Checks.ends(0, 11), 2), NONE);
        x.cut(0);
        CHECKS.due("the first arrow is cut", x.cheapest(Checks.ends(0, 11), 3), NONE);
        CHECKS.due("from there on", x.cheapest(Checks.ends(1, 11), 3), 0);
    }

    private static void cheapestIs0ForTheSame() {
        ArrowStore none = Checks.storeWithNodes(12);
        ArrowStore all = Stores.FULL.apply(0);
        for (int n = 0; n <= 11; n++) {
            for (int type = 0; type <= 4; type++) {
                CHECKS.due("cheapest to the same, no arrows", none.cheapest(13 * n, type), 0);
                CHECKS.due("cheapest to the same", all.cheapest(13 * n, type), 0);
            }
        }
        ArrowStore x = Checks.storeWithNodes(1);
        x.arrow(0, 0, 99);
        CHECKS.due("cheapest to the same, with one to itself", x.cheapest(0, 0), 0);
    }

    private static void cheapestOfTheDearestWay() {
        ArrowStore x = wayThroughAll(3, 99);
        ArrowStore y = wayThroughAllFromBehind(3, 99);
        for (int n = 0; n <= 11; n++) {
            CHECKS.due("cheapest 0 -> " + n, x.cheapest(n, 3), 99 * n);
            CHECKS.due("cheapest 0 -> " + n + ", from behind", y.cheapest(n, 4), 99 * n);
        }
    }

    private static void cheapestForNothing() {
        ArrowStore x = wayThroughAll(0, 0);
        CHECKS.due("all weights are 0", x.cheapest(11, 0), 0);
        x.arrow(Checks.ends(11, 0), 0, 0);
        CHECKS.due("and a round of them", x.cheapest(11, 0), 0);
        CHECKS.due("on that round", x.cheapest(Checks.ends(11, 10), 0), 0);
    }

    /** "The least sum of weights", which need not be the least number of arrows */
    private static void cheapestTheLeastSum() {
        ArrowStore x = wayThroughAll(0, 9);
        x.arrow(Checks.ends(0, 11), 0, 99);
        CHECKS.due("as cheap either way", x.cheapest(11, 0), 99);
        x.setWeight(10, 8);
        CHECKS.due("cheaper by eleven", x.cheapest(11, 0), 98);
        x.setWeight(11, 97);
        CHECKS.due("cheaper by one", x.cheapest(11, 0), 97);
        x.arrow(Checks.ends(0, 11), 0, 96);
        CHECKS.due("cheaper by one side by side", x.cheapest(11, 0), 96);
        x.arrow(Checks.ends(0, 11), 1, 1);
        CHECKS.due("not by another type", x.cheapest(11, 0), 96);
        CHECKS.due("by any type", x.cheapest(11, 4), 1);
    }

    // ---- promise 21 ----

    /** "type is not good: BAD" */
    private static void roundsTypeNotGood() {
        for (int type : NOT_TYPES) {
            CHECKS.refused("rounds(" + type + ")", Stores.EMPTY, x -> x.rounds(type), BAD);
            CHECKS.refused("rounds(" + type + ")", Stores.BUSY, x -> x.rounds(type), BAD);
        }
    }

    private static void roundsOfNoNodes() {
        for (int type = 0; type <= 4; type++) {
            CHECKS.due("rounds(" + type + ") of no nodes", new ArrowStore().rounds(type), 0);
        }
        ArrowStore x = Stores.FULL.apply(0);
        for (int n = 0; n < 12; n++) {
            x.drop(n, true);
        }
        CHECKS.due("rounds(4) when all are dropped", x.rounds(4), 0);
    }

    private static void roundsOfOneNode() {
        CHECKS.due("one alone", Checks.storeWithNodes(1).rounds(4), 1);
        CHECKS.due("one with one to itself", Stores.loops(1).rounds(0), 1);
        CHECKS.due("one with 24 to itself", Stores.loops(24).rounds(4), 1);
        ArrowStore x = Checks.storeWithNodes(12);
        for (int n = 0; n < 11; n++) {
            x.drop(n, false);
        }
        CHECKS.due("the last node alone", x.rounds(4), 1);
    }

    private static void roundsWithoutArrows() {
        for (int count = 0; count <= 12; count++) {
            CHECKS.due("rounds(4) of " + count, Checks.storeWithNodes(count).rounds(4), count);
        }
    }

    /** "if one comes from each to the other" */
    private static void roundsFromEachToTheOther() {
        ArrowStore x = Checks.storeWithNodes(2);
        x.arrow(Checks.ends(0, 1), 0, 0);
        CHECKS.due("there only", x.rounds(0), 2);
        x.arrow(Checks.ends(1, 0), 0, 0);
        CHECKS.due("there and back", x.rounds(0), 1);
        x.cut(0);
        CHECKS.due("back only", x.rounds(0), 2);
    }

    /** "by arrows of a type" */
    private static void roundsOfOneType() {
        for (int type = 0; type <= 3; type++) {
            ArrowStore x = Checks.storeWithNodes(2);
            x.arrow(Checks.ends(0, 1), type, 0);
            x.arrow(Checks.ends(1, 0), type, 0);
            for (int asked = 0; asked <= 4; asked++) {
                int want = asked == type || asked == 4 ? 1 : 2;
                CHECKS.due("rounds(" + asked + ") of type " + type, x.rounds(asked), want);
            }
        }
    }

    private static void roundsOfAllNodes() {
        for (ArrowStore x : new ArrowStore[] {wayThroughAll(2, 0), wayThroughAllFromBehind(2, 0)}) {
            CHECKS.due("a way through all", x.rounds(2), 12);
            x.arrow(Checks.ends(11, 0), 2, 0);
            CHECKS.due("a round of all", x.rounds(2), 1);
            x.drop(5, true);
            CHECKS.due("without one of them", x.rounds(2), 11);
        }
        ArrowStore pairs = Checks.storeWithNodes(12);
        for (int n = 0; n < 6; n++) {
            pairs.arrow(Checks.ends(n, n + 6), 2, 0);
            pairs.arrow(Checks.ends(n + 6, n), 2, 0);
        }
        CHECKS.due("six pairs", pairs.rounds(4), 6);
    }

    /** Every other node is joined with one node only, there and back: each node in turn. */
    private static void roundsThroughOneNode() {
        for (int middle = 0; middle < 12; middle++) {
            ArrowStore x = Checks.storeWithNodes(12);
            for (int n = 0; n < 12; n++) {
                if (n != middle) {
                    x.arrow(Checks.ends(n, middle), 1, 0);
                    x.arrow(Checks.ends(middle, n), 1, 0);
                }
            }
            CHECKS.due("all through " + middle, x.rounds(1), 1);
            x.cut(21);
            CHECKS.due("all but one through " + middle, x.rounds(1), 2);
            x.drop(middle, true);
            CHECKS.due("all without " + middle, x.rounds(1), 11);
        }
    }

    // ---- promise 22 ----

    /** "always 0" */
    private static void faultsAlways0() {
        for (int open = 0; open <= 4; open++) {
            CHECKS.due("faults() of none", Stores.EMPTY.apply(open).faults(), 0);
            ArrowStore busy = Stores.BUSY.apply(open);
            ArrowStore full = Stores.FULL.apply(open);
            for (int n = 0; n < 12; n++) {
                CHECKS.due("faults() while dropping, busy", busy.faults(), 0);
                CHECKS.due("faults() while dropping, full", full.faults(), 0);
                busy.drop(n, true);
                full.drop(n, true);
            }
            full.setNode(13, 9, 9);
            full.arrow(-1, 9, 999);
            CHECKS.due("faults() when emptied", full.faults(), 0);
            full.crash();
            CHECKS.due("faults() after crash()", full.faults(), 0);
        }
    }

    // ---- promise 23 ----

    private static void digestOfNone() {
        CHECKS.due("digest() of none", new ArrowStore().digest(), 0);
        CHECKS.due("digest() of empty nodes", Checks.storeWithNodes(12).digest(), 0);
        ArrowStore x = Stores.FULL.apply(0);
        for (int n = 0; n < 12; n++) {
            x.drop(n, true);
        }
        CHECKS.due("digest() when all are dropped", x.digest(), 0);
    }

    /** "over all nodes n, of (n + 1) times (labels + 3 * value)" */
    private static void digestOfEachNode() {
        for (int n = 0; n < 12; n++) {
            ArrowStore x = Checks.storeWithNodes(12);
            x.setNode(n, 7, 0);
            CHECKS.due("digest() of labels of " + n, x.digest(), 7 * (n + 1));
            x.setNode(n, 0, -1);
            CHECKS.due("digest() of value of " + n, x.digest(), -3 * (n + 1));
            x.setNode(n, 7, 1000);
            CHECKS.due("digest() of both of " + n, x.digest(), 3007 * (n + 1));
        }
    }

    /** "over all arrows a of (a + 13) times (from + 5 * to + 7 * type + 11 * weight)" */
    private static void digestOfEachArrow() {
        for (int a = 0; a < 24; a++) {
            CHECKS.due("digest() of from of " + a, withOneArrow(a, 132, 0, 0), 11 * (a + 13));
            CHECKS.due("digest() of to of " + a, withOneArrow(a, 11, 0, 0), 55 * (a + 13));
            CHECKS.due("digest() of type of " + a, withOneArrow(a, 0, 3, 0), 21 * (a + 13));
            CHECKS.due("digest() of weight of " + a, withOneArrow(a, 0, 0, 99), 1089 * (a + 13));
            CHECKS.due("digest() of all of " + a, withOneArrow(a, 143, 3, 99), 1176 * (a + 13));
        }
    }

    /** The digest when all arrows below a are as nothing in it, and a is as told. */
    private static int withOneArrow(int a, int ends, int type, int weight) {
        ArrowStore x = Checks.storeWithNodes(12);
        for (int k = 0; k < a; k++) {
            x.arrow(0, 0, 0);
        }
        x.arrow(ends, type, weight);
        return x.digest();
    }

    /** "(wrapping)" */
    private static void digestWrapsInANode() {
        for (int n = 0; n < 12; n++) {
            for (int value : new int[] {LEAST, LEAST + 1, GREATEST / 3, GREATEST / 3 + 1, GREATEST}) {
                ArrowStore x = Checks.storeWithNodes(12);
                x.setNode(n, 7, value);
                int want = (int) ((n + 1) * (7 + 3L * value));
                CHECKS.due("digest() of value " + value + " of " + n, x.digest(), want);
            }
        }
    }

    private static void digestWrapsInTheSum() {
        ArrowStore x = new ArrowStore();
        x.node(1, GREATEST / 3);
        CHECKS.due("the greatest sum", x.digest(), GREATEST);
        x.setNode(0, 2, GREATEST / 3);
        CHECKS.due("one more", x.digest(), LEAST);
        x.setNode(0, 1, GREATEST / 3);
        x.node(1, 0);
        CHECKS.due("two more, by another node", x.digest(), LEAST + 1);
        x.setNode(1, 0, 0);
        x.arrow(12, 0, 0);
        CHECKS.due("13 more, by an arrow", x.digest(), LEAST + 12);
        ArrowStore y = new ArrowStore();
        y.node(1, LEAST / 3);
        CHECKS.due("a sum near the least", y.digest(), LEAST + 3);
        y.node(0, -1);
        CHECKS.due("six less, by another node", y.digest(), GREATEST - 2);
    }

    private static void digestOfAll() {
        ArrowStore x = new ArrowStore();
        long want = 0;
        for (int n = 0; n < 12; n++) {
            x.node(7, GREATEST - n);
            want += (n + 1) * (7 + 3 * (GREATEST - (long) n));
        }
        for (int a = 0; a < 24; a++) {
            x.arrow(143, 3, 99);
            want += (a + 13) * (11 + 5 * 11 + 7 * 3 + 11 * 99);
        }
        CHECKS.due("digest() of all there is room for", x.digest(), (int) want);
    }
}
