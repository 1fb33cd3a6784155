/** Promises 1 to 7: a new object, and the calls that change the graph. */
public final class ChangesTest {
    private static final int BAD = ArrowStore.BAD;
    private static final int FULL = ArrowStore.FULL;
    private static final int HELD = ArrowStore.HELD;
    private static final int NONE = ArrowStore.NONE;
    private static final int LEAST = Integer.MIN_VALUE;
    private static final int GREATEST = Integer.MAX_VALUE;
    private static final Checks CHECKS = new Checks("ChangesTest");

    public static void main(String[] args) {
        promise1NewObject();
        promise2NodeNumbers();
        promise2NodeFull();
        promise2NodeWrong();
        promise3ArrowNumbers();
        promise3ArrowFull();
        promise3ArrowWrong();
        promise4SetNode();
        promise5SetWeight();
        promise6Cut();
        promise7DropFree();
        promise7DropAll();
        promise7DropWrong();
        CHECKS.finish();
    }

    private static void promise1NewObject() {
        ArrowStore x = new ArrowStore();
        for (int n = -1; n <= 12; n++) {
            CHECKS.due("new labels(" + n + ")", x.labels(n), BAD);
            CHECKS.due("new value(" + n + ")", x.value(n), 0);
        }
        for (int a = -1; a <= 24; a++) {
            CHECKS.due("new look(" + a + ", 0)", x.look(a, 0), BAD);
        }
        CHECKS.due("new find(0, 0)", x.find(0, 0), NONE);
        CHECKS.due("new chains(4, 4, 0)", x.chains(4, 4, 0), 0);
        CHECKS.due("new rounds(4)", x.rounds(4), 0);
        CHECKS.due("new faults()", x.faults(), 0);
        CHECKS.due("new digest()", x.digest(), 0);
        CHECKS.due("new end()", x.end(), NONE);
        CHECKS.due("new undo()", x.undo(), NONE);
        CHECKS.due("new crash()", x.crash(), 0);
        ArrowStore other = new ArrowStore();
        x.node(3, 4);
        CHECKS.due("objects share nothing: labels(0)", other.labels(0), BAD);
    }

    private static void promise2NodeNumbers() {
        ArrowStore x = new ArrowStore();
        CHECKS.due("node(0, 5)", x.node(0, 5), 0);
        CHECKS.due("node(7, -5)", x.node(7, -5), 1);
        CHECKS.due("node(3, least)", x.node(3, LEAST), 2);
        CHECKS.due("labels(0)", x.labels(0), 0);
        CHECKS.due("labels(1)", x.labels(1), 7);
        CHECKS.due("value(0)", x.value(0), 5);
        CHECKS.due("value(1)", x.value(1), -5);
        CHECKS.due("value(2)", x.value(2), LEAST);
        x.drop(1, false);
        x.drop(0, false);
        CHECKS.due("node(4, 9) takes the least free", x.node(4, 9), 0);
        CHECKS.due("node(5, 8) takes the next free", x.node(5, 8), 1);
        CHECKS.due("node(6, 7) after the others", x.node(6, 7), 3);
        CHECKS.due("labels(0) anew", x.labels(0), 4);
        CHECKS.due("value(0) anew", x.value(0), 9);
    }

    private static void promise2NodeFull() {
        ArrowStore x = new ArrowStore();
        for (int n = 0; n < 12; n++) {
            CHECKS.due("node " + n, x.node(n % 8, n), n);
        }
        int before = x.digest();
        CHECKS.due("a thirteenth node", x.node(0, 0), FULL);
        CHECKS.due("BAD goes before FULL", x.node(8, 0), BAD);
        CHECKS.due("digest() after FULL", x.digest(), before);
        x.drop(11, false);
        CHECKS.due("node after drop(11)", x.node(1, 1), 11);
    }

    private static void promise2NodeWrong() {
        ArrowStore x = new ArrowStore();
        for (int labels : new int[] {-1, 8, LEAST, GREATEST}) {
            CHECKS.due("node(" + labels + ", 1)", x.node(labels, 1), BAD);
        }
        CHECKS.due("a refused node is not there", x.labels(0), BAD);
        CHECKS.due("a refused node takes no number", x.node(0, 1), 0);
    }

    private static void promise3ArrowNumbers() {
        ArrowStore x = Checks.storeWithNodes(12);
        CHECKS.due("arrow 0 -> 0", x.arrow(0, 0, 0), 0);
        CHECKS.due("arrow 11 -> 11", x.arrow(143, 3, 99), 1);
        CHECKS.due("arrow 1 -> 2", x.arrow(14, 2, 50), 2);
        CHECKS.due("the same again", x.arrow(14, 2, 50), 3);
        CHECKS.due("from of 2", x.look(2, 0), 1);
        CHECKS.due("to of 2", x.look(2, 1), 2);
        CHECKS.due("type of 2", x.look(2, 2), 2);
        CHECKS.due("weight of 2", x.look(2, 3), 50);
        CHECKS.due("degree(1, 2, 0)", x.degree(1, 2, 0), 2);
        x.cut(2);
        x.cut(0);
        CHECKS.due("the least free", x.arrow(25, 1, 7), 0);
        CHECKS.due("the next free", x.arrow(25, 1, 8), 2);
        CHECKS.due("after the others", x.arrow(25, 1, 9), 4);
        CHECKS.due("from of 0 anew", x.look(0, 0), 2);
        CHECKS.due("to of 0 anew", x.look(0, 1), 1);
        CHECKS.due("type of 0 anew", x.look(0, 2), 1);
        CHECKS.due("weight of 0 anew", x.look(0, 3), 7);
    }

    private static void promise3ArrowFull() {
        ArrowStore x = Checks.storeWithNodes(2);
        for (int a = 0; a < 24; a++) {
            CHECKS.due("arrow " + a, x.arrow(1, a % 4, a), a);
        }
        int before = x.digest();
        CHECKS.due("a 25th arrow", x.arrow(1, 0, 0), FULL);
        CHECKS.due("BAD ends before FULL", x.arrow(2, 0, 0), BAD);
        CHECKS.due("BAD type before FULL", x.arrow(1, 4, 0), BAD);
        CHECKS.due("BAD weight before FULL", x.arrow(1, 0, 100), BAD);
        CHECKS.due("digest() after FULL", x.digest(), before);
        x.cut(23);
        CHECKS.due("arrow after cut(23)", x.arrow(1, 0, 0), 23);
    }

    private static void promise3ArrowWrong() {
        ArrowStore x = Checks.storeWithNodes(12);
        for (int ends : new int[] {-1, -12, -13, 144, 156, LEAST, GREATEST}) {
            CHECKS.due("arrow(" + ends + ", 0, 0)", x.arrow(ends, 0, 0), BAD);
        }
        for (int type : new int[] {-1, 4, 5, LEAST, GREATEST}) {
            CHECKS.due("arrow(0, " + type + ", 0)", x.arrow(0, type, 0), BAD);
        }
        for (int weight : new int[] {-1, 100, LEAST, GREATEST}) {
            CHECKS.due("arrow(0, 0, " + weight + ")", x.arrow(0, 0, weight), BAD);
        }
        x.drop(5, false);
        CHECKS.due("from a node that is gone", x.arrow(Checks.ends(5, 1), 0, 0), BAD);
        CHECKS.due("to a node that is gone", x.arrow(Checks.ends(1, 5), 0, 0), BAD);
        CHECKS.due("a refused arrow takes no number", x.arrow(0, 0, 0), 0);
    }

    private static void promise4SetNode() {
        ArrowStore x = new ArrowStore();
        x.node(5, 10);
        x.node(1, 20);
        CHECKS.due("setNode(0, 2, -3)", x.setNode(0, 2, -3), 5);
        CHECKS.due("labels(0)", x.labels(0), 2);
        CHECKS.due("value(0)", x.value(0), -3);
        CHECKS.due("setNode(0, 0, greatest)", x.setNode(0, 0, GREATEST), 2);
        CHECKS.due("setNode(0, 7, 4)", x.setNode(0, 7, 4), 0);
        CHECKS.due("labels(1) as before", x.labels(1), 1);
        CHECKS.due("value(1) as before", x.value(1), 20);
        for (int n : new int[] {-1, 2, 11, 12, 60, LEAST, GREATEST}) {
            CHECKS.due("setNode(" + n + ", 1, 1)", x.setNode(n, 1, 1), BAD);
        }
        for (int labels : new int[] {-1, 8, LEAST, GREATEST}) {
            CHECKS.due("setNode(0, " + labels + ", 1)", x.setNode(0, labels, 1), BAD);
        }
        CHECKS.due("labels(0) after refusals", x.labels(0), 7);
        CHECKS.due("value(0) after refusals", x.value(0), 4);
        CHECKS.due("labels(2) after refusals", x.labels(2), BAD);
    }

    private static void promise5SetWeight() {
        ArrowStore x = Checks.storeWithNodes(2);
        x.arrow(1, 2, 40);
        x.arrow(1, 2, 41);
        CHECKS.due("setWeight(0, 99)", x.setWeight(0, 99), 40);
        CHECKS.due("setWeight(0, 0)", x.setWeight(0, 0), 99);
        CHECKS.due("setWeight(0, 5)", x.setWeight(0, 5), 0);
        CHECKS.due("weight of 0", x.look(0, 3), 5);
        CHECKS.due("weight of 1 as before", x.look(1, 3), 41);
        CHECKS.due("type of 0 as before", x.look(0, 2), 2);
        for (int a : new int[] {-1, 2, 23, 24, 120, LEAST, GREATEST}) {
            CHECKS.due("setWeight(" + a + ", 1)", x.setWeight(a, 1), BAD);
        }
        for (int weight : new int[] {-1, 100, LEAST, GREATEST}) {
            CHECKS.due("setWeight(0, " + weight + ")", x.setWeight(0, weight), BAD);
        }
        CHECKS.due("weight of 0 after refusals", x.look(0, 3), 5);
        x.cut(0);
        CHECKS.due("setWeight of one cut", x.setWeight(0, 1), BAD);
    }

    private static void promise6Cut() {
        ArrowStore x = Checks.storeWithNodes(2);
        x.arrow(1, 0, 1);
        x.arrow(1, 0, 2);
        x.arrow(1, 0, 3);
        for (int a : new int[] {-1, 3, 23, 24, 120, LEAST, GREATEST}) {
            CHECKS.due("cut(" + a + ")", x.cut(a), BAD);
        }
        CHECKS.due("cut(1)", x.cut(1), 2);
        CHECKS.due("cut(1) again", x.cut(1), BAD);
        CHECKS.due("look(1, 3)", x.look(1, 3), BAD);
        CHECKS.due("look(0, 3)", x.look(0, 3), 1);
        CHECKS.due("look(2, 3)", x.look(2, 3), 3);
        CHECKS.due("cut(2)", x.cut(2), 1);
        CHECKS.due("cut(0)", x.cut(0), 0);
        CHECKS.due("the nodes stay", x.rounds(4), 2);
    }

    private static void promise7DropFree() {
        ArrowStore x = Checks.storeWithNodes(4);
        x.arrow(Checks.ends(0, 1), 0, 1);
        x.arrow(Checks.ends(2, 2), 3, 1);
        int before = x.digest();
        CHECKS.due("drop with an arrow from it", x.drop(0, false), HELD);
        CHECKS.due("drop with an arrow to it", x.drop(1, false), HELD);
        CHECKS.due("drop with an arrow to itself", x.drop(2, false), HELD);
        CHECKS.due("digest() after HELD", x.digest(), before);
        CHECKS.due("labels(0) after HELD", x.labels(0), 0);
        CHECKS.due("drop without arrows", x.drop(3, false), 0);
        CHECKS.due("labels(3) after it", x.labels(3), BAD);
        x.cut(0);
        CHECKS.due("drop after the cut", x.drop(1, false), 0);
        CHECKS.due("labels(1) after it", x.labels(1), BAD);
    }

    private static void promise7DropAll() {
        ArrowStore x = Checks.storeWithNodes(3);
        x.arrow(Checks.ends(0, 1), 0, 1);
        x.arrow(Checks.ends(1, 2), 1, 2);
        x.arrow(Checks.ends(1, 1), 2, 3);
        x.arrow(Checks.ends(2, 0), 3, 4);
        x.arrow(Checks.ends(2, 1), 3, 5);
        CHECKS.due("drop(1, true)", x.drop(1, true), 4);
        CHECKS.due("labels(1)", x.labels(1), BAD);
        for (int a : new int[] {0, 1, 2, 4}) {
            CHECKS.due("look(" + a + ", 3)", x.look(a, 3), BAD);
        }
        CHECKS.due("look(3, 3)", x.look(3, 3), 4);
        CHECKS.due("faults()", x.faults(), 0);
        CHECKS.due("a new node 1", x.node(0, 0), 1);
        CHECKS.due("it has no arrows", x.degree(1, 4, 2), 0);
        CHECKS.due("drop(1, true) without arrows", x.drop(1, true), 0);
    }

    private static void promise7DropWrong() {
        ArrowStore x = Checks.storeWithNodes(2);
        x.arrow(1, 0, 1);
        int before = x.digest();
        for (int n : new int[] {-1, 2, 11, 12, 60, LEAST, GREATEST}) {
            CHECKS.due("drop(" + n + ", true)", x.drop(n, true), BAD);
            CHECKS.due("drop(" + n + ", false)", x.drop(n, false), BAD);
        }
        CHECKS.due("digest() after refusals", x.digest(), before);
        CHECKS.due("rounds(4) after refusals", x.rounds(4), 2);
    }
}
