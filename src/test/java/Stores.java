import java.util.function.IntFunction;

/**
 * Stores that can be made again and again alike, with 0 to 4 transactions open, so that one that
 * got a call can be held against one that did not.
 */
final class Stores {
    /** In a busy store at any depth, these are there, and node 0 has arrows. */
    static final int GOOD_NODE = 0;
    static final int GOOD_ARROW = 0;

    /** In a busy store at any depth, none of these is there. */
    static final int[] NOT_NODES = {Integer.MIN_VALUE, -12, -1, 9, 11, 12, 13, 60, Integer.MAX_VALUE};
    static final int[] NOT_ARROWS = {Integer.MIN_VALUE, -24, -1, 10, 23, 24, 25, 120, Integer.MAX_VALUE};

    static final IntFunction<ArrowStore> EMPTY = Stores::empty;
    static final IntFunction<ArrowStore> BUSY = Stores::busy;
    static final IntFunction<ArrowStore> FULL = Stores::full;

    private Stores() {
    }

    private static ArrowStore empty(int open) {
        ArrowStore x = new ArrowStore();
        beginTimes(x, open);
        return x;
    }

    /** Holes among nodes and arrows, and changes of every kind in the transactions. */
    private static ArrowStore busy(int open) {
        ArrowStore x = new ArrowStore();
        for (int n = 0; n < 6; n++) {
            x.node(n, 100 * n - 250);
        }
        x.arrow(Checks.ends(0, 1), 0, 5);
        x.arrow(Checks.ends(1, 2), 1, 99);
        x.arrow(Checks.ends(3, 3), 2, 1);
        x.arrow(Checks.ends(2, 2), 3, 0);
        x.arrow(Checks.ends(2, 4), 0, 50);
        x.drop(3, true);
        for (int depth = 1; depth <= open; depth++) {
            x.begin();
            changeAt(x, depth);
        }
        return x;
    }

    private static void changeAt(ArrowStore x, int depth) {
        x.setNode(0, depth, 1000 + depth);
        x.setWeight(0, 10 * depth);
        x.node(7 - depth, -depth);
        x.arrow(Checks.ends(1, 0), depth % 4, depth);
        if (depth == 2) {
            x.cut(1);
        }
        if (depth == 3) {
            x.drop(4, true);
        }
    }

    /** Twelve nodes and 24 arrows, each with values of its own. */
    private static ArrowStore full(int open) {
        ArrowStore x = new ArrowStore();
        for (int n = 0; n < 12; n++) {
            x.node(n % 8, n - 6);
        }
        for (int a = 0; a < 24; a++) {
            x.arrow(Checks.ends(a % 12, (a * 5 + 1) % 12), a % 4, 4 * a);
        }
        beginTimes(x, open);
        return x;
    }

    static void beginTimes(ArrowStore x, int times) {
        for (int k = 0; k < times; k++) {
            x.begin();
        }
    }

    /** A node and so many arrows from it to itself, of type 0 and weight 0. */
    static ArrowStore loops(int count) {
        ArrowStore x = Checks.storeWithNodes(1);
        for (int a = 0; a < count; a++) {
            x.arrow(0, 0, 0);
        }
        return x;
    }

    /** All that the questions about single nodes and arrows tell. */
    static String picture(ArrowStore x) {
        StringBuilder text = new StringBuilder();
        for (int n = 0; n < 12; n++) {
            if (x.labels(n) >= 0) {
                text.append(" node ").append(n).append(": ").append(x.labels(n));
                text.append(' ').append(x.value(n)).append(';');
            }
        }
        for (int a = 0; a < 24; a++) {
            if (x.look(a, 0) >= 0) {
                text.append(" arrow ").append(a).append(':');
                for (int what = 0; what < 4; what++) {
                    text.append(' ').append(x.look(a, what));
                }
                text.append(';');
            }
        }
        return text.toString();
    }
}
