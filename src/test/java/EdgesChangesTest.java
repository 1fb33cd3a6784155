/** The edges that promises 2 to 7 name, a test for each sentence. */
public final class EdgesChangesTest {
    private static final int BAD = ArrowStore.BAD;
    private static final int FULL = ArrowStore.FULL;
    private static final int HELD = ArrowStore.HELD;
    private static final int LEAST = Integer.MIN_VALUE;
    private static final int GREATEST = Integer.MAX_VALUE;
    private static final int[] NOT_LABELS = {LEAST, -8, -1, 8, 9, 16, GREATEST};
    private static final int[] NOT_WEIGHTS = {LEAST, -99, -1, 100, 101, 256, GREATEST};
    private static final int[] NOT_NODES = Stores.NOT_NODES;
    private static final int[] NOT_ARROWS = Stores.NOT_ARROWS;
    private static final int NODE = Stores.GOOD_NODE;
    private static final int ARROW = Stores.GOOD_ARROW;
    private static final Checks CHECKS = new Checks("EdgesChangesTest");

    public static void main(String[] args) {
        nodeLabelsNot0To7();
        nodeLabels0And7();
        nodeThereAreTwelve();
        nodeTheTwelfth();
        nodeTheLeastNumber();
        arrowEndsBelow0();
        arrowFromNoGoodNode();
        arrowToNoGoodNode();
        arrowEndsOfGoodNodes();
        arrowWithoutAnyNode();
        arrowTypeNot0To3();
        arrowWeightNot0To99();
        arrowThereAre24();
        arrowTheLast();
        arrowTheLeastNumber();
        setNodeNotGood();
        setNodeLabelsNot0To7();
        setNodeAnswersTheLabelsBefore();
        setWeightNotGood();
        setWeightNot0To99();
        setWeightAnswersTheWeightBefore();
        cutNotGood();
        cutTwice();
        cutAnswersHowManyAreLeft();
        dropNotGood();
        dropTwice();
        dropOnlyIfThereAreNone();
        dropAfterTheLastArrowIsCut();
        dropAnswersHowManyWereTaken();
        dropLeavesTheOtherArrows();
        CHECKS.finish();
    }

    // ---- promise 2 ----

    /** "labels is not 0 .. 7: BAD" */
    private static void nodeLabelsNot0To7() {
        for (int labels : NOT_LABELS) {
            String call = "node(" + labels + ", 1)";
            CHECKS.refused(call, Stores.EMPTY, x -> x.node(labels, 1), BAD);
            CHECKS.refused(call, Stores.BUSY, x -> x.node(labels, 1), BAD);
            CHECKS.refused(call, Stores.FULL, x -> x.node(labels, 1), BAD);
        }
    }

    private static void nodeLabels0And7() {
        ArrowStore x = new ArrowStore();
        CHECKS.due("node(0, least)", x.node(0, LEAST), 0);
        CHECKS.due("node(7, greatest)", x.node(7, GREATEST), 1);
        CHECKS.due("labels(0)", x.labels(0), 0);
        CHECKS.due("labels(1)", x.labels(1), 7);
        CHECKS.due("value(0)", x.value(0), LEAST);
        CHECKS.due("value(1)", x.value(1), GREATEST);
    }

    /** "there are twelve: FULL" */
    private static void nodeThereAreTwelve() {
        CHECKS.refused("node(0, 0)", Stores.FULL, x -> x.node(0, 0), FULL);
        CHECKS.refused("node(7, greatest)", Stores.FULL, x -> x.node(7, GREATEST), FULL);
    }

    private static void nodeTheTwelfth() {
        ArrowStore x = Checks.storeWithNodes(11);
        CHECKS.due("the twelfth node", x.node(7, 9), 11);
        CHECKS.due("its labels", x.labels(11), 7);
        CHECKS.due("its value", x.value(11), 9);
        CHECKS.due("the thirteenth", x.node(7, 9), FULL);
    }

    /** "Else answers its number, the least that no node has." */
    private static void nodeTheLeastNumber() {
        for (int gone = 0; gone < 12; gone++) {
            ArrowStore x = Stores.FULL.apply(0);
            x.drop(11, true);
            x.drop(gone, true);
            CHECKS.due("node after drop(" + gone + ")", x.node(6, 99), gone);
            CHECKS.due("its labels", x.labels(gone), 6);
            CHECKS.due("its value", x.value(gone), 99);
            CHECKS.due("it has no arrows", x.degree(gone, 4, 2), 0);
            CHECKS.due("the next node", x.node(0, 0), gone == 11 ? FULL : 11);
        }
    }

    // ---- promise 3 ----

    /** "ends is below 0 ...: BAD" */
    private static void arrowEndsBelow0() {
        for (int ends : new int[] {LEAST, -144, -13, -12, -11, -1}) {
            String call = "arrow(" + ends + ", 0, 0)";
            CHECKS.refused(call, Stores.BUSY, x -> x.arrow(ends, 0, 0), BAD);
            CHECKS.refused(call, Stores.FULL, x -> x.arrow(ends, 0, 0), BAD);
        }
    }

    /** "or one of the two is no good node ...: BAD" */
    private static void arrowFromNoGoodNode() {
        for (int from : new int[] {8, 9, 10, 11, 12, 13, 60, GREATEST / 12}) {
            int ends = Checks.ends(from, NODE);
            CHECKS.refused("arrow(" + ends + ", 0, 0)", Stores.BUSY, x -> x.arrow(ends, 0, 0), BAD);
        }
        for (int ends : new int[] {144, 145, 155, 156, 720, GREATEST}) {
            CHECKS.refused("arrow(" + ends + ", 0, 0)", Stores.FULL, x -> x.arrow(ends, 0, 0), BAD);
        }
    }

    private static void arrowToNoGoodNode() {
        for (int to = 8; to <= 11; to++) {
            int ends = Checks.ends(NODE, to);
            CHECKS.refused("arrow(" + ends + ", 0, 0)", Stores.BUSY, x -> x.arrow(ends, 0, 0), BAD);
        }
        ArrowStore x = Checks.storeWithNodes(12);
        x.drop(11, false);
        CHECKS.due("to a node that is dropped", x.arrow(11, 0, 0), BAD);
        CHECKS.due("from a node that is dropped", x.arrow(132, 0, 0), BAD);
    }

    private static void arrowEndsOfGoodNodes() {
        ArrowStore x = Checks.storeWithNodes(12);
        CHECKS.due("arrow(0, 0, 0)", x.arrow(0, 0, 0), 0);
        CHECKS.due("arrow(11, 0, 0)", x.arrow(11, 0, 0), 1);
        CHECKS.due("arrow(12, 0, 0)", x.arrow(12, 0, 0), 2);
        CHECKS.due("arrow(143, 0, 0)", x.arrow(143, 0, 0), 3);
        int[] want = {0, 0, 0, 11, 1, 0, 11, 11};
        for (int k = 0; k < want.length; k++) {
            CHECKS.due("look(" + k / 2 + ", " + k % 2 + ")", x.look(k / 2, k % 2), want[k]);
        }
    }

    private static void arrowWithoutAnyNode() {
        for (int ends : new int[] {0, 1, 12, 143}) {
            CHECKS.refused("arrow(" + ends + ", 0, 0)", Stores.EMPTY, x -> x.arrow(ends, 0, 0), BAD);
        }
    }

    /** "type is not 0 .. 3 ...: BAD" */
    private static void arrowTypeNot0To3() {
        for (int type : new int[] {LEAST, -4, -1, 4, 5, 8, GREATEST}) {
            String call = "arrow(0, " + type + ", 0)";
            CHECKS.refused(call, Stores.BUSY, x -> x.arrow(0, type, 0), BAD);
            CHECKS.refused(call, Stores.FULL, x -> x.arrow(0, type, 0), BAD);
        }
        ArrowStore x = Checks.storeWithNodes(1);
        CHECKS.due("arrow(0, 0, 0)", x.arrow(0, 0, 0), 0);
        CHECKS.due("arrow(0, 3, 0)", x.arrow(0, 3, 0), 1);
    }

    /** "or weight not 0 .. 99: BAD" */
    private static void arrowWeightNot0To99() {
        for (int weight : NOT_WEIGHTS) {
            String call = "arrow(0, 0, " + weight + ")";
            CHECKS.refused(call, Stores.BUSY, x -> x.arrow(0, 0, weight), BAD);
            CHECKS.refused(call, Stores.FULL, x -> x.arrow(0, 0, weight), BAD);
        }
        ArrowStore x = Checks.storeWithNodes(1);
        CHECKS.due("arrow(0, 0, 0)", x.arrow(0, 0, 0), 0);
        CHECKS.due("arrow(0, 0, 99)", x.arrow(0, 0, 99), 1);
        CHECKS.due("the least weight", x.look(0, 3), 0);
        CHECKS.due("the greatest weight", x.look(1, 3), 99);
    }

    /** "there are 24: FULL" */
    private static void arrowThereAre24() {
        CHECKS.refused("arrow(0, 0, 0)", Stores.FULL, x -> x.arrow(0, 0, 0), FULL);
        CHECKS.refused("arrow(143, 3, 99)", Stores.FULL, x -> x.arrow(143, 3, 99), FULL);
    }

    private static void arrowTheLast() {
        ArrowStore x = Stores.loops(23);
        CHECKS.due("the 24th arrow", x.arrow(0, 3, 99), 23);
        CHECKS.due("its type", x.look(23, 2), 3);
        CHECKS.due("its weight", x.look(23, 3), 99);
        CHECKS.due("the 25th", x.arrow(0, 3, 99), FULL);
    }

    /** "Else answers its number, the least that no arrow has." */
    private static void arrowTheLeastNumber() {
        for (int gone = 0; gone < 24; gone++) {
            ArrowStore x = Stores.FULL.apply(0);
            x.cut(23);
            x.cut(gone);
            CHECKS.due("arrow after cut(" + gone + ")", x.arrow(143, 3, 99), gone);
            CHECKS.due("its from", x.look(gone, 0), 11);
            CHECKS.due("its to", x.look(gone, 1), 11);
            CHECKS.due("the next arrow", x.arrow(0, 0, 0), gone == 23 ? FULL : 23);
        }
    }

    // ---- promise 4 ----

    /** "n is not good ...: BAD" */
    private static void setNodeNotGood() {
        for (int n : NOT_NODES) {
            CHECKS.refused("setNode(" + n + ", 7, 7)", Stores.BUSY, x -> x.setNode(n, 7, 7), BAD);
        }
        for (int n : new int[] {-1, 0, 11, 12}) {
            CHECKS.refused("setNode(" + n + ", 7, 7)", Stores.EMPTY, x -> x.setNode(n, 7, 7), BAD);
        }
        for (int n : new int[] {-1, 12}) {
            CHECKS.refused("setNode(" + n + ", 7, 7)", Stores.FULL, x -> x.setNode(n, 7, 7), BAD);
        }
    }

    /** "or labels is not 0 .. 7: BAD" */
    private static void setNodeLabelsNot0To7() {
        for (int labels : NOT_LABELS) {
            CHECKS.refused("setNode(0, " + labels + ", 7)", Stores.BUSY,
                x -> x.setNode(NODE, labels, 7), BAD);
        }
    }

    /** "Else answers the labels before." */
    private static void setNodeAnswersTheLabelsBefore() {
        ArrowStore x = Stores.FULL.apply(0);
        for (int n : new int[] {0, 11}) {
            x.setNode(n, 7, LEAST);
            CHECKS.due("value(" + n + ") after the least", x.value(n), LEAST);
            for (int labels = 0; labels <= 7; labels++) {
                int before = (labels + 7) % 8;
                CHECKS.due("setNode from " + before, x.setNode(n, labels, GREATEST), before);
                CHECKS.due("labels(" + n + ") then", x.labels(n), labels);
                CHECKS.due("value(" + n + ") then", x.value(n), GREATEST);
            }
        }
        CHECKS.due("labels(1) as before", x.labels(1), 1);
        CHECKS.due("labels(10) as before", x.labels(10), 2);
    }

    // ---- promise 5 ----

    /** "a is not good ...: BAD" */
    private static void setWeightNotGood() {
        for (int a : NOT_ARROWS) {
            CHECKS.refused("setWeight(" + a + ", 77)", Stores.BUSY, x -> x.setWeight(a, 77), BAD);
        }
        for (int a : new int[] {-1, 0, 23, 24}) {
            CHECKS.refused("setWeight(" + a + ", 77)", Stores.EMPTY, x -> x.setWeight(a, 77), BAD);
        }
        for (int a : new int[] {-1, 24}) {
            CHECKS.refused("setWeight(" + a + ", 77)", Stores.FULL, x -> x.setWeight(a, 77), BAD);
        }
    }

    /** "or weight is not 0 .. 99: BAD" */
    private static void setWeightNot0To99() {
        for (int weight : NOT_WEIGHTS) {
            CHECKS.refused("setWeight(0, " + weight + ")", Stores.BUSY,
                x -> x.setWeight(ARROW, weight), BAD);
        }
    }

    /** "Else answers the weight before." */
    private static void setWeightAnswersTheWeightBefore() {
        ArrowStore x = Stores.FULL.apply(0);
        for (int a : new int[] {0, 23}) {
            CHECKS.due("setWeight(" + a + ", 99)", x.setWeight(a, 99), 4 * a);
            CHECKS.due("setWeight(" + a + ", 0)", x.setWeight(a, 0), 99);
            CHECKS.due("setWeight(" + a + ", 1)", x.setWeight(a, 1), 0);
            CHECKS.due("look(" + a + ", 3)", x.look(a, 3), 1);
        }
        CHECKS.due("look(1, 3) as before", x.look(1, 3), 4);
        CHECKS.due("look(22, 3) as before", x.look(22, 3), 88);
    }

    // ---- promise 6 ----

    /** "a is not good: BAD" */
    private static void cutNotGood() {
        for (int a : NOT_ARROWS) {
            CHECKS.refused("cut(" + a + ")", Stores.BUSY, x -> x.cut(a), BAD);
        }
        for (int a : new int[] {-1, 0, 23, 24}) {
            CHECKS.refused("cut(" + a + ")", Stores.EMPTY, x -> x.cut(a), BAD);
        }
        for (int a : new int[] {-1, 24}) {
            CHECKS.refused("cut(" + a + ")", Stores.FULL, x -> x.cut(a), BAD);
        }
    }

    private static void cutTwice() {
        ArrowStore x = Stores.loops(3);
        CHECKS.due("cut(2)", x.cut(2), 2);
        CHECKS.due("cut(2) again", x.cut(2), BAD);
        CHECKS.due("cut(0) after it", x.cut(0), 1);
    }

    /** "Else answers how many arrows are left." */
    private static void cutAnswersHowManyAreLeft() {
        ArrowStore up = Stores.FULL.apply(0);
        ArrowStore down = Stores.FULL.apply(4);
        for (int k = 0; k < 24; k++) {
            CHECKS.due("cut(" + k + ") upward", up.cut(k), 23 - k);
            CHECKS.due("cut(" + (23 - k) + ") downward", down.cut(23 - k), 23 - k);
        }
        CHECKS.due("no arrow is left", up.chains(4, 4, 0), 0);
        CHECKS.due("the nodes are left", up.rounds(4), 12);
        CHECKS.due("an arrow after all are cut", up.arrow(0, 0, 0), 0);
    }

    // ---- promise 7 ----

    /** "n is not good: BAD" */
    private static void dropNotGood() {
        for (boolean all : new boolean[] {false, true}) {
            for (int n : NOT_NODES) {
                CHECKS.refused("drop(" + n + ", " + all + ")", Stores.BUSY, x -> x.drop(n, all), BAD);
            }
            for (int n : new int[] {-1, 0, 11, 12}) {
                CHECKS.refused("drop(" + n + ", " + all + ")", Stores.EMPTY, x -> x.drop(n, all), BAD);
            }
            for (int n : new int[] {-1, 12}) {
                CHECKS.refused("drop(" + n + ", " + all + ")", Stores.FULL, x -> x.drop(n, all), BAD);
            }
        }
    }

    private static void dropTwice() {
        ArrowStore x = Checks.storeWithNodes(1);
        CHECKS.due("drop(0, false)", x.drop(0, false), 0);
        CHECKS.due("drop(0, false) again", x.drop(0, false), BAD);
        CHECKS.due("drop(0, true) again", x.drop(0, true), BAD);
    }

    /** "all is false, and it has arrows: HELD" */
    private static void dropOnlyIfThereAreNone() {
        CHECKS.refused("drop(0, false)", Stores.BUSY, x -> x.drop(0, false), HELD);
        for (int n : new int[] {0, 11}) {
            CHECKS.refused("drop(" + n + ", false)", Stores.FULL, x -> x.drop(n, false), HELD);
        }
        for (int type = 0; type <= 3; type++) {
            ArrowStore x = Checks.storeWithNodes(4);
            x.arrow(Checks.ends(0, 1), type, 0);
            x.arrow(Checks.ends(2, 2), type, 0);
            CHECKS.due("one arrow from it", x.drop(0, false), HELD);
            CHECKS.due("one arrow to it", x.drop(1, false), HELD);
            CHECKS.due("one arrow to itself", x.drop(2, false), HELD);
            CHECKS.due("no arrow", x.drop(3, false), 0);
            CHECKS.due("labels of it", x.labels(3), BAD);
        }
    }

    private static void dropAfterTheLastArrowIsCut() {
        ArrowStore x = Stores.loops(2);
        x.cut(0);
        CHECKS.due("one arrow is left", x.drop(0, false), HELD);
        x.cut(1);
        CHECKS.due("none is left", x.drop(0, false), 0);
    }

    /** "Else answers how many arrows were taken away." */
    private static void dropAnswersHowManyWereTaken() {
        CHECKS.due("drop all of none", Checks.storeWithNodes(1).drop(0, true), 0);
        for (int count = 1; count <= 24; count++) {
            CHECKS.due("drop all of " + count, Stores.loops(count).drop(0, true), count);
        }
        ArrowStore x = Checks.storeWithNodes(2);
        for (int k = 0; k < 24; k++) {
            x.arrow(k % 2 == 0 ? 1 : 12, k % 4, 0);
        }
        CHECKS.due("drop all, from it and to it", x.drop(1, true), 24);
        CHECKS.due("the other node has none then", x.degree(0, 4, 2), 0);
        CHECKS.due("an arrow after it", x.arrow(0, 0, 0), 0);
    }

    private static void dropLeavesTheOtherArrows() {
        ArrowStore x = Checks.storeWithNodes(12);
        x.arrow(Checks.ends(11, 10), 0, 1);
        x.arrow(Checks.ends(10, 9), 0, 2);
        x.arrow(Checks.ends(9, 11), 0, 3);
        CHECKS.due("drop(11, true)", x.drop(11, true), 2);
        CHECKS.due("look(0, 3)", x.look(0, 3), BAD);
        CHECKS.due("look(1, 3)", x.look(1, 3), 2);
        CHECKS.due("look(2, 3)", x.look(2, 3), BAD);
        CHECKS.due("arrow after it", x.arrow(0, 0, 0), 0);
        CHECKS.due("the next", x.arrow(0, 0, 0), 2);
    }
}
