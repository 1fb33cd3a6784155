/** Promises 12 to 23: the questions. */
public final class QuestionsTest {
    private static final int BAD = ArrowStore.BAD;
    private static final int NONE = ArrowStore.NONE;
    private static final int LEAST = Integer.MIN_VALUE;
    private static final int GREATEST = Integer.MAX_VALUE;
    private static final int[] WRONG_TYPES = {-1, 5, 15, LEAST, GREATEST};
    private static final int[] WRONG_LABELS = {-1, 8, LEAST, GREATEST};
    private static final int[] WRONG_ENDS = {-1, -12, -13, 2, 24, 144, LEAST, GREATEST};
    private static final int[] WRONG_NODES = {-1, 2, 11, 12, 60, LEAST, GREATEST};
    private static final Checks CHECKS = new Checks("QuestionsTest");

    public static void main(String[] args) {
        promise12Labels();
        promise13Value();
        promise14Look();
        promise15Degree();
        promise16ArrowAt();
        promise16ArrowAtWrong();
        promise17Find();
        promise18Chains();
        promise18ChainsDifferentArrows();
        promise19Distance();
        promise19DistanceLong();
        promise20Cheapest();
        promise20CheapestLong();
        promise21Rounds();
        promise21RoundsInAnyOrder();
        promise22Faults();
        promise23Digest();
        questionsChangeNothing();
        CHECKS.finish();
    }

    private static void promise12Labels() {
        ArrowStore x = new ArrowStore();
        x.node(0, 9);
        x.node(7, 9);
        CHECKS.due("labels(0)", x.labels(0), 0);
        CHECKS.due("labels(1)", x.labels(1), 7);
        for (int n : WRONG_NODES) {
            CHECKS.due("labels(" + n + ")", x.labels(n), BAD);
        }
        x.drop(1, true);
        CHECKS.due("labels(1) after drop", x.labels(1), BAD);
    }

    private static void promise13Value() {
        ArrowStore x = new ArrowStore();
        x.node(1, GREATEST);
        x.node(1, -1);
        CHECKS.due("value(0)", x.value(0), GREATEST);
        CHECKS.due("value(1)", x.value(1), -1);
        for (int n : WRONG_NODES) {
            CHECKS.due("value(" + n + ")", x.value(n), 0);
        }
        x.drop(0, true);
        CHECKS.due("value(0) after drop", x.value(0), 0);
    }

    private static void promise14Look() {
        ArrowStore x = Checks.storeWithNodes(12);
        x.arrow(Checks.ends(11, 7), 3, 98);
        CHECKS.due("look(0, 0)", x.look(0, 0), 11);
        CHECKS.due("look(0, 1)", x.look(0, 1), 7);
        CHECKS.due("look(0, 2)", x.look(0, 2), 3);
        CHECKS.due("look(0, 3)", x.look(0, 3), 98);
        for (int what : new int[] {-1, 4, LEAST, GREATEST}) {
            CHECKS.due("look(0, " + what + ")", x.look(0, what), BAD);
        }
        for (int a : new int[] {-1, 1, 23, 24, 120, LEAST, GREATEST}) {
            CHECKS.due("look(" + a + ", 0)", x.look(a, 0), BAD);
        }
    }

    /** Node 0 has the arrows 0, 2, 3 from it and 1, 3 to it; arrow 4 is from node 1 to itself. */
    private static ArrowStore smallStore() {
        ArrowStore x = Checks.storeWithNodes(2);
        x.arrow(Checks.ends(0, 1), 0, 10);
        x.arrow(Checks.ends(1, 0), 0, 20);
        x.arrow(Checks.ends(0, 1), 1, 30);
        x.arrow(Checks.ends(0, 0), 0, 40);
        x.arrow(Checks.ends(1, 1), 3, 50);
        return x;
    }

    private static void promise15Degree() {
        ArrowStore x = smallStore();
        CHECKS.due("degree(0, 0, 0)", x.degree(0, 0, 0), 2);
        CHECKS.due("degree(0, 0, 1)", x.degree(0, 0, 1), 2);
        CHECKS.due("degree(0, 0, 2)", x.degree(0, 0, 2), 3);
        CHECKS.due("degree(0, 1, 0)", x.degree(0, 1, 0), 1);
        CHECKS.due("degree(0, 1, 1)", x.degree(0, 1, 1), 0);
        CHECKS.due("degree(0, 3, 2)", x.degree(0, 3, 2), 0);
        CHECKS.due("degree(0, 4, 0)", x.degree(0, 4, 0), 3);
        CHECKS.due("degree(0, 4, 1)", x.degree(0, 4, 1), 2);
        CHECKS.due("degree(0, 4, 2)", x.degree(0, 4, 2), 4);
        CHECKS.due("degree(1, 3, 2)", x.degree(1, 3, 2), 1);
        for (int n : WRONG_NODES) {
            CHECKS.due("degree(" + n + ", 0, 0)", x.degree(n, 0, 0), BAD);
        }
        for (int type : WRONG_TYPES) {
            CHECKS.due("degree(0, " + type + ", 0)", x.degree(0, type, 0), BAD);
        }
        for (int way : new int[] {-1, 3, LEAST, GREATEST}) {
            CHECKS.due("degree(0, 0, " + way + ")", x.degree(0, 0, way), BAD);
        }
    }

    private static int code(int way, int n, int type) {
        return 16 * (12 * way + n) + type;
    }

    private static void sequence(ArrowStore x, int code, int... want) {
        for (int k = 0; k < want.length; k++) {
            CHECKS.due("arrowAt(" + code + ", " + k + ")", x.arrowAt(code, k), want[k]);
        }
        for (int k : new int[] {want.length, 24, GREATEST, -1, LEAST}) {
            CHECKS.due("arrowAt(" + code + ", " + k + ")", x.arrowAt(code, k), NONE);
        }
    }

    private static void promise16ArrowAt() {
        ArrowStore x = smallStore();
        sequence(x, code(0, 0, 0), 0, 3);
        sequence(x, code(1, 0, 0), 1, 3);
        sequence(x, code(2, 0, 0), 0, 1, 3);
        sequence(x, code(0, 0, 4), 0, 2, 3);
        sequence(x, code(1, 1, 4), 0, 2, 4);
        sequence(x, code(2, 1, 4), 0, 1, 2, 4);
        sequence(x, code(2, 1, 2));
        x.cut(0);
        sequence(x, code(2, 0, 4), 1, 2, 3);
        for (int k = x.node(0, 0); k < 11; k++) {
            x.node(0, 0);
        }
        x.arrow(Checks.ends(11, 11), 2, 0);
        sequence(x, code(2, 11, 4), 0);
    }

    private static void promise16ArrowAtWrong() {
        ArrowStore x = smallStore();
        for (int code : new int[] {-1, -16, LEAST, GREATEST, code(3, 0, 0), code(3, 0, 0) + 192}) {
            CHECKS.due("arrowAt(" + code + ", 0)", x.arrowAt(code, 0), BAD);
        }
        for (int type = 5; type < 16; type++) {
            CHECKS.due("arrowAt of type " + type, x.arrowAt(code(0, 0, type), 0), BAD);
        }
        for (int n = 2; n < 12; n++) {
            CHECKS.due("arrowAt of node " + n, x.arrowAt(code(1, n, 0), 0), BAD);
        }
        CHECKS.due("BAD goes before NONE", x.arrowAt(code(0, 0, 5), -1), BAD);
    }

    private static void promise17Find() {
        ArrowStore x = new ArrowStore();
        x.node(1, 5);
        x.node(3, 5);
        x.node(7, 5);
        x.node(2, -1);
        CHECKS.due("find(0, 5)", x.find(0, 5), 0);
        CHECKS.due("find(1, 5)", x.find(1, 5), 0);
        CHECKS.due("find(2, 5)", x.find(2, 5), 1);
        CHECKS.due("find(3, 5)", x.find(3, 5), 1);
        CHECKS.due("find(4, 5)", x.find(4, 5), 2);
        CHECKS.due("find(0, -1)", x.find(0, -1), 3);
        CHECKS.due("find(1, -1)", x.find(1, -1), NONE);
        CHECKS.due("find(0, 0)", x.find(0, 0), NONE);
        for (int labels : WRONG_LABELS) {
            CHECKS.due("find(" + labels + ", 5)", x.find(labels, 5), BAD);
        }
        x.drop(0, true);
        CHECKS.due("find(0, 5) after drop", x.find(0, 5), 1);
    }

    private static void promise18Chains() {
        ArrowStore x = new ArrowStore();
        x.node(0, 0);
        x.node(5, 0);
        x.node(0, 0);
        x.arrow(Checks.ends(0, 1), 0, 0);
        x.arrow(Checks.ends(0, 1), 1, 0);
        x.arrow(Checks.ends(1, 2), 2, 0);
        x.arrow(Checks.ends(1, 2), 0, 0);
        CHECKS.due("chains(0, 2, 0)", x.chains(0, 2, 0), 1);
        CHECKS.due("chains(2, 0, 0)", x.chains(2, 0, 0), 0);
        CHECKS.due("chains(0, 0, 0)", x.chains(0, 0, 0), 1);
        CHECKS.due("chains(4, 2, 0)", x.chains(4, 2, 0), 2);
        CHECKS.due("chains(1, 4, 0)", x.chains(1, 4, 0), 2);
        CHECKS.due("chains(4, 4, 0)", x.chains(4, 4, 0), 4);
        CHECKS.due("chains(4, 4, 1)", x.chains(4, 4, 1), 4);
        CHECKS.due("chains(4, 4, 5)", x.chains(4, 4, 5), 4);
        CHECKS.due("chains(4, 4, 2)", x.chains(4, 4, 2), 0);
        CHECKS.due("chains(4, 4, 7)", x.chains(4, 4, 7), 0);
        for (int type : WRONG_TYPES) {
            CHECKS.due("chains(" + type + ", 0, 0)", x.chains(type, 0, 0), BAD);
            CHECKS.due("chains(0, " + type + ", 0)", x.chains(0, type, 0), BAD);
        }
        for (int labels : WRONG_LABELS) {
            CHECKS.due("chains(0, 0, " + labels + ")", x.chains(0, 0, labels), BAD);
        }
    }

    private static void promise18ChainsDifferentArrows() {
        ArrowStore x = Checks.storeWithNodes(2);
        x.arrow(Checks.ends(0, 0), 0, 0);
        CHECKS.due("an arrow to itself is no couple", x.chains(4, 4, 0), 0);
        x.arrow(Checks.ends(0, 0), 0, 0);
        CHECKS.due("two of them, either first", x.chains(0, 0, 0), 2);
        x.arrow(Checks.ends(0, 1), 1, 0);
        CHECKS.due("each of them before the third", x.chains(0, 1, 0), 2);
        x.arrow(Checks.ends(1, 0), 1, 0);
        CHECKS.due("there and back, either first", x.chains(1, 1, 0), 2);
    }

    private static void promise19Distance() {
        ArrowStore x = smallStore();
        CHECKS.due("distance 0 -> 0", x.distance(0, 0), 0);
        CHECKS.due("distance 1 -> 1 without arrows of it", x.distance(13, 2), 0);
        CHECKS.due("distance 0 -> 1 by type 1", x.distance(1, 1), 1);
        CHECKS.due("distance 1 -> 0 by type 1", x.distance(12, 1), NONE);
        CHECKS.due("distance 1 -> 0 by any", x.distance(12, 4), 1);
        for (int ends : WRONG_ENDS) {
            CHECKS.due("distance(" + ends + ", 4)", x.distance(ends, 4), BAD);
        }
        for (int type : WRONG_TYPES) {
            CHECKS.due("distance(1, " + type + ")", x.distance(1, type), BAD);
            CHECKS.due("distance(0, " + type + ")", x.distance(0, type), BAD);
        }
    }

    /** A way through all nodes, whose arrows are numbered against their order on it. */
    private static ArrowStore longWay() {
        ArrowStore x = Checks.storeWithNodes(12);
        for (int n = 10; n >= 0; n--) {
            x.arrow(Checks.ends(n, n + 1), 2, 99);
        }
        return x;
    }

    private static void promise19DistanceLong() {
        ArrowStore x = longWay();
        CHECKS.due("distance 0 -> 11", x.distance(11, 2), 11);
        CHECKS.due("distance 0 -> 11 by any", x.distance(11, 4), 11);
        CHECKS.due("distance 11 -> 0", x.distance(132, 4), NONE);
        x.arrow(Checks.ends(2, 9), 0, 99);
        CHECKS.due("the short cut has another type", x.distance(11, 2), 11);
        CHECKS.due("the short cut by any type", x.distance(11, 4), 5);
        CHECKS.due("the short cut alone", x.distance(Checks.ends(2, 9), 0), 1);
        x.cut(5);
        CHECKS.due("the long way is cut", x.distance(11, 2), NONE);
    }

    private static void promise20Cheapest() {
        ArrowStore x = Checks.storeWithNodes(3);
        x.arrow(Checks.ends(0, 2), 0, 50);
        x.arrow(Checks.ends(0, 1), 0, 20);
        x.arrow(Checks.ends(1, 2), 0, 29);
        x.arrow(Checks.ends(1, 2), 1, 3);
        x.arrow(Checks.ends(0, 2), 1, 60);
        x.arrow(Checks.ends(0, 0), 0, 5);
        int there = Checks.ends(0, 2);
        CHECKS.due("over another node", x.cheapest(there, 0), 49);
        CHECKS.due("of one type", x.cheapest(there, 1), 60);
        CHECKS.due("of any type", x.cheapest(there, 4), 23);
        CHECKS.due("no way of the type", x.cheapest(there, 2), NONE);
        CHECKS.due("no way back", x.cheapest(Checks.ends(2, 0), 4), NONE);
        CHECKS.due("to the same node", x.cheapest(0, 0), 0);
        x.setWeight(2, 31);
        CHECKS.due("after setWeight", x.cheapest(there, 0), 50);
        x.setWeight(0, 0);
        CHECKS.due("for nothing", x.cheapest(there, 0), 0);
        ArrowStore y = smallStore();
        for (int ends : WRONG_ENDS) {
            CHECKS.due("cheapest(" + ends + ", 4)", y.cheapest(ends, 4), BAD);
        }
        for (int type : WRONG_TYPES) {
            CHECKS.due("cheapest(1, " + type + ")", y.cheapest(1, type), BAD);
            CHECKS.due("cheapest(0, " + type + ")", y.cheapest(0, type), BAD);
        }
    }

    private static void promise20CheapestLong() {
        ArrowStore x = longWay();
        CHECKS.due("cheapest 0 -> 11", x.cheapest(11, 2), 11 * 99);
        CHECKS.due("cheapest 11 -> 0", x.cheapest(132, 2), NONE);
    }

    private static void promise21Rounds() {
        ArrowStore x = Checks.storeWithNodes(5);
        CHECKS.due("without arrows each is alone", x.rounds(4), 5);
        x.arrow(Checks.ends(0, 1), 0, 0);
        x.arrow(Checks.ends(1, 2), 0, 0);
        CHECKS.due("there, but not back", x.rounds(0), 5);
        x.arrow(Checks.ends(2, 0), 1, 0);
        CHECKS.due("back by another type", x.rounds(0), 5);
        CHECKS.due("back by any type", x.rounds(4), 3);
        x.arrow(Checks.ends(3, 4), 1, 0);
        x.arrow(Checks.ends(4, 3), 1, 0);
        x.arrow(Checks.ends(2, 3), 1, 0);
        CHECKS.due("two groups, joined one way", x.rounds(4), 2);
        CHECKS.due("by type 1", x.rounds(1), 4);
        x.arrow(Checks.ends(4, 2), 3, 0);
        CHECKS.due("joined both ways", x.rounds(4), 1);
        x.drop(1, true);
        CHECKS.due("without node 1", x.rounds(4), 2);
        for (int type : WRONG_TYPES) {
            CHECKS.due("rounds(" + type + ")", x.rounds(type), BAD);
        }
    }

    private static void promise21RoundsInAnyOrder() {
        int[] order = {5, 0, 11, 3, 9, 1, 7, 2, 10, 4, 8, 6};
        ArrowStore x = Checks.storeWithNodes(12);
        for (int k = 0; k < 12; k++) {
            x.arrow(Checks.ends(order[k], order[(k + 1) % 12]), 3, 0);
        }
        CHECKS.due("one round of all", x.rounds(3), 1);
        x.cut(7);
        CHECKS.due("the round is cut", x.rounds(3), 12);
    }

    private static void promise22Faults() {
        ArrowStore x = smallStore();
        CHECKS.due("faults() of a small store", x.faults(), 0);
        x.begin();
        x.drop(0, true);
        CHECKS.due("faults() after drop", x.faults(), 0);
        x.undo();
        CHECKS.due("faults() after undo", x.faults(), 0);
        for (int k = 0; k < 40; k++) {
            x.node(k % 8, k);
            x.arrow(k % 144, k % 4, k);
        }
        CHECKS.due("faults() of a full store", x.faults(), 0);
        x.crash();
        CHECKS.due("faults() after crash", x.faults(), 0);
    }

    private static void promise23Digest() {
        ArrowStore x = new ArrowStore();
        x.node(5, 7);
        CHECKS.due("one node", x.digest(), 5 + 3 * 7);
        x.node(2, -100);
        int nodes = 26 + 2 * (2 - 300);
        CHECKS.due("two nodes", x.digest(), nodes);
        x.arrow(Checks.ends(1, 0), 0, 0);
        CHECKS.due("from", x.digest(), nodes + 13);
        x.arrow(Checks.ends(0, 1), 0, 0);
        CHECKS.due("to", x.digest(), nodes + 13 + 14 * 5);
        x.arrow(Checks.ends(0, 0), 3, 0);
        CHECKS.due("type", x.digest(), nodes + 83 + 15 * 21);
        x.arrow(Checks.ends(0, 0), 0, 99);
        CHECKS.due("weight", x.digest(), nodes + 398 + 16 * 1089);
        x.cut(0);
        CHECKS.due("after cut", x.digest(), nodes + 385 + 16 * 1089);
        x.drop(0, true);
        CHECKS.due("after drop", x.digest(), 2 * (2 - 300));
        x.setNode(1, 0, GREATEST);
        CHECKS.due("wrapping", x.digest(), -6);
    }

    private static void questionsChangeNothing() {
        ArrowStore x = smallStore();
        x.begin();
        x.setNode(1, 7, 6);
        int before = x.digest();
        x.labels(1);
        x.value(1);
        x.look(0, 3);
        x.degree(0, 4, 2);
        x.arrowAt(4, 1);
        x.find(7, 6);
        x.chains(4, 4, 0);
        x.distance(1, 4);
        x.cheapest(1, 4);
        x.rounds(4);
        x.faults();
        CHECKS.due("digest() after questions", x.digest(), before);
        CHECKS.due("a question opens and ends nothing", x.undo(), 0);
        CHECKS.due("labels(1) after undo", x.labels(1), 0);
    }
}
