/** The edges that promises 12 to 18 name, a test for each sentence. */
public final class EdgesQuestionsTest {
    private static final int BAD = ArrowStore.BAD;
    private static final int NONE = ArrowStore.NONE;
    private static final int LEAST = Integer.MIN_VALUE;
    private static final int GREATEST = Integer.MAX_VALUE;
    private static final int[] NOT_TYPES = {LEAST, -4, -1, 5, 6, 8, 16, GREATEST};
    private static final int[] NOT_LABELS = {LEAST, -8, -1, 8, 9, 16, GREATEST};
    private static final Checks CHECKS = new Checks("EdgesQuestionsTest");

    public static void main(String[] args) {
        labelsNotGood();
        labelsOfTheFirstAndTheLast();
        valueIs0IfNotGood();
        valueOfTheFirstAndTheLast();
        lookNotGood();
        lookWhatNot0To3();
        lookAtTheFirstAndTheLast();
        degreeNodeNotGood();
        degreeTypeNotGood();
        degreeWayNot0To2();
        degreeOfNoneAndOfAll();
        degreeCountsOneToItselfOnce();
        arrowAtCodeBelow0();
        arrowAtNodeNotGood();
        arrowAtTypeNotGood();
        arrowAtWayNot0To2();
        arrowAtTheLeastAndTheGreatestCode();
        arrowAtThereIsNone();
        arrowAtTheFirstAndTheLast();
        arrowAtAsDegreeCounts();
        findLabelsNot0To7();
        findThereIsNone();
        findAllOfTheLabelsAndMaybeOthers();
        findTheLeastNode();
        chainsTypeNotGood();
        chainsLabelsNot0To7();
        chainsOfNoneAndOfAll();
        chainsOfDifferentArrows();
        chainsNodeHasAllTheLabels();
        CHECKS.finish();
    }

    // ---- promise 12 ----

    /** "n is not good: BAD." */
    private static void labelsNotGood() {
        for (int n : Stores.NOT_NODES) {
            CHECKS.refused("labels(" + n + ")", Stores.BUSY, x -> x.labels(n), BAD);
        }
        for (int n = 0; n <= 11; n++) {
            CHECKS.due("labels(" + n + ") of none", new ArrowStore().labels(n), BAD);
        }
        ArrowStore x = Checks.storeWithNodes(2);
        x.drop(0, false);
        CHECKS.due("labels of one dropped", x.labels(0), BAD);
        CHECKS.due("labels of the other", x.labels(1), 0);
    }

    private static void labelsOfTheFirstAndTheLast() {
        ArrowStore x = Stores.FULL.apply(0);
        for (int n = 0; n <= 11; n++) {
            CHECKS.due("labels(" + n + ") of twelve", x.labels(n), n % 8);
        }
    }

    // ---- promise 13 ----

    /** "0 if n is not good." */
    private static void valueIs0IfNotGood() {
        for (int n : Stores.NOT_NODES) {
            for (int open = 0; open <= 4; open++) {
                CHECKS.due("value(" + n + ")", Stores.BUSY.apply(open).value(n), 0);
            }
        }
        for (int n = 0; n <= 11; n++) {
            CHECKS.due("value(" + n + ") of none", new ArrowStore().value(n), 0);
        }
        ArrowStore x = new ArrowStore();
        x.node(0, 5);
        x.drop(0, false);
        CHECKS.due("value of one dropped", x.value(0), 0);
        x.begin();
        x.node(0, 6);
        x.undo();
        CHECKS.due("value of one undone", x.value(0), 0);
    }

    private static void valueOfTheFirstAndTheLast() {
        ArrowStore x = Stores.FULL.apply(0);
        for (int n = 0; n <= 11; n++) {
            CHECKS.due("value(" + n + ") of twelve", x.value(n), n - 6);
        }
    }

    // ---- promise 14 ----

    /** "a is not good ...: BAD." */
    private static void lookNotGood() {
        for (int what = 0; what <= 3; what++) {
            int part = what;
            for (int a : Stores.NOT_ARROWS) {
                CHECKS.refused("look(" + a + ", " + what + ")", Stores.BUSY, x -> x.look(a, part), BAD);
            }
            for (int a = 0; a <= 23; a++) {
                CHECKS.due("look(" + a + ", " + what + ") of none", new ArrowStore().look(a, what), BAD);
            }
        }
        ArrowStore x = Stores.loops(2);
        x.cut(0);
        CHECKS.due("look at one cut", x.look(0, 0), BAD);
        CHECKS.due("look at the other", x.look(1, 0), 0);
    }

    /** "or what is not 0 .. 3: BAD." */
    private static void lookWhatNot0To3() {
        for (int what : new int[] {LEAST, -4, -1, 4, 5, 8, GREATEST}) {
            CHECKS.refused("look(0, " + what + ")", Stores.BUSY, x -> x.look(0, what), BAD);
        }
    }

    private static void lookAtTheFirstAndTheLast() {
        ArrowStore x = Stores.FULL.apply(0);
        int[] first = {0, 1, 0, 0};
        int[] last = {11, 8, 3, 92};
        for (int what = 0; what <= 3; what++) {
            CHECKS.due("look(0, " + what + ")", x.look(0, what), first[what]);
            CHECKS.due("look(23, " + what + ")", x.look(23, what), last[what]);
        }
    }

    // ---- promise 15 ----

    /** "n ... is not good ...: BAD." */
    private static void degreeNodeNotGood() {
        for (int n : Stores.NOT_NODES) {
            CHECKS.refused("degree(" + n + ", 4, 2)", Stores.BUSY, x -> x.degree(n, 4, 2), BAD);
        }
        CHECKS.due("degree(0, 4, 2) of none", new ArrowStore().degree(0, 4, 2), BAD);
        CHECKS.due("degree(11, 4, 2) of none", new ArrowStore().degree(11, 4, 2), BAD);
    }

    /** "or type, is not good ...: BAD." */
    private static void degreeTypeNotGood() {
        for (int type : NOT_TYPES) {
            CHECKS.refused("degree(0, " + type + ", 2)", Stores.BUSY, x -> x.degree(0, type, 2), BAD);
        }
    }

    /** "or way is not 0 .. 2: BAD." */
    private static void degreeWayNot0To2() {
        for (int way : new int[] {LEAST, -2, -1, 3, 4, GREATEST}) {
            CHECKS.refused("degree(0, 4, " + way + ")", Stores.BUSY, x -> x.degree(0, 4, way), BAD);
        }
    }

    private static void degreeOfNoneAndOfAll() {
        ArrowStore none = Checks.storeWithNodes(12);
        ArrowStore all = Checks.storeWithNodes(12);
        for (int a = 0; a < 24; a++) {
            all.arrow(Checks.ends(0, 11), 3, 0);
        }
        for (int way = 0; way <= 2; way++) {
            CHECKS.due("degree(0, 4, " + way + ") of none", none.degree(0, 4, way), 0);
            CHECKS.due("degree(11, 0, " + way + ") of none", none.degree(11, 0, way), 0);
            CHECKS.due("degree(0, 3, " + way + ") of all", all.degree(0, 3, way), way == 1 ? 0 : 24);
            CHECKS.due("degree(11, 4, " + way + ") of all", all.degree(11, 4, way), way == 0 ? 0 : 24);
            CHECKS.due("degree(0, 2, " + way + ") of another type", all.degree(0, 2, way), 0);
            CHECKS.due("degree(5, 4, " + way + ") of another node", all.degree(5, 4, way), 0);
        }
    }

    /** "2 both (one from it to itself counts once)" */
    private static void degreeCountsOneToItselfOnce() {
        for (int count : new int[] {1, 2, 24}) {
            for (int way = 0; way <= 2; way++) {
                CHECKS.due(count + " to itself, way " + way, Stores.loops(count).degree(0, 0, way), count);
            }
        }
        ArrowStore x = Checks.storeWithNodes(2);
        x.arrow(Checks.ends(0, 0), 0, 0);
        x.arrow(Checks.ends(0, 1), 0, 0);
        x.arrow(Checks.ends(1, 0), 0, 0);
        CHECKS.due("one of each, from", x.degree(0, 0, 0), 2);
        CHECKS.due("one of each, to", x.degree(0, 0, 1), 2);
        CHECKS.due("one of each, both", x.degree(0, 0, 2), 3);
    }

    // ---- promise 16 ----

    /** "code is below 0 ...: BAD" */
    private static void arrowAtCodeBelow0() {
        for (int code : new int[] {LEAST, -576, -192, -191, -16, -15, -12, -4, -1}) {
            CHECKS.refused("arrowAt(" + code + ", 0)", Stores.BUSY, x -> x.arrowAt(code, 0), BAD);
            CHECKS.refused("arrowAt(" + code + ", 0)", Stores.FULL, x -> x.arrowAt(code, 0), BAD);
        }
    }

    /** "or n ... is not as in degree: BAD" */
    private static void arrowAtNodeNotGood() {
        for (int way = 0; way <= 2; way++) {
            for (int n = 8; n <= 11; n++) {
                int code = Checks.code(way, n, 4);
                CHECKS.refused("arrowAt(" + code + ", 0)", Stores.BUSY, x -> x.arrowAt(code, 0), BAD);
            }
            CHECKS.due("arrowAt of no node", new ArrowStore().arrowAt(Checks.code(way, 0, 0), 0), BAD);
        }
    }

    /** "type ... is not as in degree: BAD" */
    private static void arrowAtTypeNotGood() {
        for (int type = 5; type <= 15; type++) {
            int code = Checks.code(2, 0, type);
            CHECKS.refused("arrowAt(" + code + ", 0)", Stores.BUSY, x -> x.arrowAt(code, 0), BAD);
        }
    }

    /** "or way is not as in degree: BAD" */
    private static void arrowAtWayNot0To2() {
        for (int way : new int[] {3, 4, 5, 16, 11184809}) {
            int code = Checks.code(way, 0, 4);
            CHECKS.refused("arrowAt(" + code + ", 0)", Stores.BUSY, x -> x.arrowAt(code, 0), BAD);
        }
        CHECKS.refused("arrowAt(greatest, 0)", Stores.FULL, x -> x.arrowAt(GREATEST, 0), BAD);
        CHECKS.refused("arrowAt(greatest - 15, 0)", Stores.FULL, x -> x.arrowAt(GREATEST - 15, 0), BAD);
    }

    private static void arrowAtTheLeastAndTheGreatestCode() {
        ArrowStore x = Stores.FULL.apply(0);
        CHECKS.due("arrowAt(0, 0)", x.arrowAt(0, 0), 0);
        CHECKS.due("arrowAt(4, 0)", x.arrowAt(4, 0), 0);
        CHECKS.due("arrowAt(5, 0)", x.arrowAt(5, 0), BAD);
        CHECKS.due("arrowAt(564, 0)", x.arrowAt(564, 0), 2);
        CHECKS.due("arrowAt(565, 0)", x.arrowAt(565, 0), BAD);
        CHECKS.due("arrowAt(575, 0)", x.arrowAt(575, 0), BAD);
        CHECKS.due("arrowAt(576, 0)", x.arrowAt(576, 0), BAD);
        CHECKS.due("arrowAt(192, 0) is of way 1, node 0", x.arrowAt(192, 0), NONE);
        CHECKS.due("arrowAt(196, 0) is of way 1, node 0", x.arrowAt(196, 0), 7);
    }

    /** "there is none: NONE" */
    private static void arrowAtThereIsNone() {
        CHECKS.due("of no arrows", Checks.storeWithNodes(1).arrowAt(4, 0), NONE);
        for (int k : new int[] {LEAST, -24, -1, 24, 25, GREATEST}) {
            CHECKS.refused("arrowAt(4, " + k + ")", Stores.BUSY, x -> x.arrowAt(4, k), NONE);
            CHECKS.due("arrowAt(4, " + k + ") of 24", Stores.loops(24).arrowAt(4, k), NONE);
        }
        for (int count = 1; count <= 23; count++) {
            CHECKS.due("the one after " + count, Stores.loops(count).arrowAt(0, count), NONE);
        }
    }

    /** "that has exactly k of them with lesser numbers" */
    private static void arrowAtTheFirstAndTheLast() {
        ArrowStore x = Stores.loops(24);
        for (int k = 0; k <= 23; k++) {
            CHECKS.due("arrowAt(0, " + k + ") of 24", x.arrowAt(0, k), k);
            CHECKS.due("arrowAt(388, " + k + ") of 24", x.arrowAt(Checks.code(2, 0, 4), k), k);
        }
        x.cut(0);
        CHECKS.due("the first after cut(0)", x.arrowAt(0, 0), 1);
        CHECKS.due("the last after cut(0)", x.arrowAt(0, 22), 23);
        CHECKS.due("the one after the last", x.arrowAt(0, 23), NONE);
    }

    private static void arrowAtAsDegreeCounts() {
        for (int code = 0; code < 576; code++) {
            ArrowStore x = Stores.FULL.apply(0);
            int degree = x.degree(code / 16 % 12, code % 16, code / 192);
            CHECKS.due("arrowAt(" + code + ", 24)", x.arrowAt(code, 24), degree == BAD ? BAD : NONE);
            for (int k = 1; k < degree; k++) {
                boolean rises = x.arrowAt(code, k) > x.arrowAt(code, k - 1);
                CHECKS.due("arrowAt(" + code + ", " + k + ") rises", rises ? 1 : 0, 1);
            }
            if (degree >= 0) {
                CHECKS.due("arrowAt(" + code + ", degree)", x.arrowAt(code, degree), NONE);
            }
            if (degree > 0) {
                boolean there = x.arrowAt(code, degree - 1) >= 0;
                CHECKS.due("arrowAt(" + code + ", degree - 1) is there", there ? 1 : 0, 1);
            }
        }
    }

    // ---- promise 17 ----

    /** "labels is not 0 .. 7: BAD" */
    private static void findLabelsNot0To7() {
        for (int labels : NOT_LABELS) {
            CHECKS.refused("find(" + labels + ", 0)", Stores.EMPTY, x -> x.find(labels, 0), BAD);
            CHECKS.refused("find(" + labels + ", 0)", Stores.FULL, x -> x.find(labels, 0), BAD);
        }
    }

    /** "there is none: NONE" */
    private static void findThereIsNone() {
        for (int labels = 0; labels <= 7; labels++) {
            int set = labels;
            CHECKS.refused("find(" + labels + ", 0)", Stores.EMPTY, x -> x.find(set, 0), NONE);
            CHECKS.refused("find(" + labels + ", 6)", Stores.FULL, x -> x.find(set, 6), NONE);
            CHECKS.refused("find(" + labels + ", -7)", Stores.FULL, x -> x.find(set, -7), NONE);
        }
        ArrowStore x = new ArrowStore();
        x.node(7, 0);
        x.drop(0, false);
        CHECKS.due("find of one dropped", x.find(0, 0), NONE);
        x.node(6, 0);
        CHECKS.due("find of labels not all there", x.find(7, 0), NONE);
        CHECKS.due("find of another value", x.find(6, 1), NONE);
    }

    /** "that has the labels (all of them, and maybe others)" */
    private static void findAllOfTheLabelsAndMaybeOthers() {
        for (int has = 0; has <= 7; has++) {
            ArrowStore x = new ArrowStore();
            x.node(has, 5);
            for (int asked = 0; asked <= 7; asked++) {
                int want = (has | asked) == has ? 0 : NONE;
                CHECKS.due("find(" + asked + ", 5) of " + has, x.find(asked, 5), want);
            }
        }
    }

    /** "The least node with a value" */
    private static void findTheLeastNode() {
        ArrowStore x = Stores.FULL.apply(0);
        CHECKS.due("find of the first", x.find(0, -6), 0);
        CHECKS.due("find of the last", x.find(3, 5), 11);
        for (int n = 0; n < 12; n++) {
            x.setNode(n, 7, LEAST);
        }
        for (int n = 0; n < 12; n++) {
            CHECKS.due("find of all alike from " + n, x.find(7, LEAST), n);
            x.setNode(n, 7, GREATEST);
        }
    }

    // ---- promise 18 ----

    /** "t or u is not good ...: BAD" */
    private static void chainsTypeNotGood() {
        for (int type : NOT_TYPES) {
            CHECKS.refused("chains(" + type + ", 4, 0)", Stores.BUSY, x -> x.chains(type, 4, 0), BAD);
            CHECKS.refused("chains(4, " + type + ", 0)", Stores.BUSY, x -> x.chains(4, type, 0), BAD);
            CHECKS.due("chains(" + type + ", 4, 0) of none", new ArrowStore().chains(type, 4, 0), BAD);
            CHECKS.due("chains(4, " + type + ", 0) of none", new ArrowStore().chains(4, type, 0), BAD);
        }
    }

    /** "or labels not 0 .. 7: BAD" */
    private static void chainsLabelsNot0To7() {
        for (int labels : NOT_LABELS) {
            CHECKS.refused("chains(4, 4, " + labels + ")", Stores.BUSY, x -> x.chains(4, 4, labels), BAD);
            CHECKS.due("chains(4, 4, " + labels + ") of none", new ArrowStore().chains(4, 4, labels), BAD);
        }
    }

    private static void chainsOfNoneAndOfAll() {
        CHECKS.due("chains of no nodes", new ArrowStore().chains(4, 4, 7), 0);
        CHECKS.due("chains of no arrows", Checks.storeWithNodes(12).chains(0, 3, 0), 0);
        CHECKS.due("chains of 24 to itself", Stores.loops(24).chains(4, 4, 0), 24 * 23);
        ArrowStore x = Checks.storeWithNodes(12);
        for (int a = 0; a < 24; a++) {
            x.arrow(a % 2 == 0 ? Checks.ends(0, 11) : Checks.ends(11, 10), a % 2 * 3, 0);
        }
        CHECKS.due("chains of twelve and twelve", x.chains(0, 3, 0), 144);
        CHECKS.due("chains against them", x.chains(3, 0, 0), 0);
    }

    /** "couples of different arrows r, s" */
    private static void chainsOfDifferentArrows() {
        CHECKS.due("one to itself", Stores.loops(1).chains(0, 0, 0), 0);
        CHECKS.due("two to itself", Stores.loops(2).chains(0, 0, 0), 2);
        ArrowStore x = Checks.storeWithNodes(2);
        x.arrow(Checks.ends(0, 1), 0, 0);
        CHECKS.due("one alone", x.chains(4, 4, 0), 0);
        x.arrow(Checks.ends(0, 1), 0, 0);
        CHECKS.due("two alike side by side", x.chains(4, 4, 0), 0);
        x.arrow(Checks.ends(1, 0), 1, 0);
        CHECKS.due("each of two, then back", x.chains(0, 1, 0), 2);
        CHECKS.due("back, then each of two", x.chains(1, 0, 0), 2);
        CHECKS.due("both of these", x.chains(4, 4, 0), 4);
    }

    /** "and this node has the labels (all of them)" */
    private static void chainsNodeHasAllTheLabels() {
        for (int has = 0; has <= 7; has++) {
            ArrowStore x = new ArrowStore();
            x.node(7 - has, 0);
            x.node(has, 0);
            x.node(7 - has, 0);
            x.arrow(Checks.ends(0, 1), 0, 0);
            x.arrow(Checks.ends(1, 2), 1, 0);
            for (int asked = 0; asked <= 7; asked++) {
                int want = (has | asked) == has ? 1 : 0;
                CHECKS.due("chains(0, 1, " + asked + ") of " + has, x.chains(0, 1, asked), want);
            }
        }
    }
}
