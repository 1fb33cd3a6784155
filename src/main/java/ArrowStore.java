/**
 * A graph of nodes and arrows that is changed in transactions within transactions.
 *
 * The object holds one whole picture of the graph for each depth of transaction, 0 (none open)
 * to 4. Only the picture of the innermost depth is read and changed: to open a transaction is to
 * copy that picture one deeper, to end it is to copy it back, and to undo it is to forget it.
 */
public final class ArrowStore {
    public static final int BAD = -1;
    public static final int NONE = -2;
    public static final int FULL = -3;
    public static final int HELD = -4;

    private static final int NODES = 12;
    private static final int ARROWS = 24;
    private static final int MOST_OPEN = 4;
    private static final int PICTURES = MOST_OPEN + 1;
    private static final int NODE_SLOTS = PICTURES * NODES;
    private static final int ARROW_SLOTS = PICTURES * ARROWS;
    private static final int TYPES = 4;
    private static final int ANY_TYPE = 4;
    private static final int MOST_LABELS = 7;
    private static final int MOST_WEIGHT = 99;

    private static final int WAY_FROM = 0;
    private static final int WAY_TO = 1;
    private static final int WAY_BOTH = 2;

    /** Above the cost of every way without a round: at most eleven arrows of weight 99. */
    private static final int FAR = 1000000;

    private final boolean[] nodeThere = new boolean[NODE_SLOTS];
    private final int[] nodeLabels = new int[NODE_SLOTS];
    private final int[] nodeValue = new int[NODE_SLOTS];

    private final boolean[] arrowThere = new boolean[ARROW_SLOTS];
    private final int[] arrowFrom = new int[ARROW_SLOTS];
    private final int[] arrowTo = new int[ARROW_SLOTS];
    private final int[] arrowType = new int[ARROW_SLOTS];
    private final int[] arrowWeight = new int[ARROW_SLOTS];

    /** Scratch of distance and cheapest, filled anew by each of them. */
    private final int[] cost = new int[NODES];

    /** Scratch of rounds, filled anew by it: bit m of reach[n] says that one comes from n to m. */
    private final int[] reach = new int[NODES];

    /** How many transactions are open, 0 .. MOST_OPEN: also the depth of the picture in use. */
    private int open = 0;

    public ArrowStore() {
    }

    // ---- changes ----

    public int node(int labels, int value) {
        if (!goodLabels(labels)) {
            return BAD;
        }
        for (int n = 0; n < NODES; n++) {
            int i = nodeSlot(n);
            if (!nodeThere[i]) {
                nodeThere[i] = true;
                nodeLabels[i] = labels;
                nodeValue[i] = value;
                return n;
            }
        }
        return FULL;
    }

    public int arrow(int ends, int type, int weight) {
        if (!goodEnds(ends) || type < 0 || type >= TYPES || !goodWeight(weight)) {
            return BAD;
        }
        for (int a = 0; a < ARROWS; a++) {
            int i = arrowSlot(a);
            if (!arrowThere[i]) {
                arrowThere[i] = true;
                arrowFrom[i] = ends / NODES;
                arrowTo[i] = ends % NODES;
                arrowType[i] = type;
                arrowWeight[i] = weight;
                return a;
            }
        }
        return FULL;
    }

    public int setNode(int n, int labels, int value) {
        if (!goodNode(n) || !goodLabels(labels)) {
            return BAD;
        }
        int i = nodeSlot(n);
        int before = nodeLabels[i];
        nodeLabels[i] = labels;
        nodeValue[i] = value;
        return before;
    }

    public int setWeight(int a, int weight) {
        if (!goodArrow(a) || !goodWeight(weight)) {
            return BAD;
        }
        int i = arrowSlot(a);
        int before = arrowWeight[i];
        arrowWeight[i] = weight;
        return before;
    }

    public int cut(int a) {
        if (!goodArrow(a)) {
            return BAD;
        }
        arrowThere[arrowSlot(a)] = false;
        return countArrows();
    }

    public int drop(int n, boolean all) {
        if (!goodNode(n)) {
            return BAD;
        }
        int touching = countMatching(n, ANY_TYPE, WAY_BOTH);
        if (!all && touching > 0) {
            return HELD;
        }
        cutAllTouching(n);
        nodeThere[nodeSlot(n)] = false;
        return touching;
    }

    // ---- transactions ----

    public int begin() {
        if (open >= MOST_OPEN) {
            return FULL;
        }
        copyPicture(open, open + 1);
        open++;
        return open;
    }

    public int end() {
        if (open <= 0) {
            return NONE;
        }
        copyPicture(open, open - 1);
        open--;
        return open;
    }

    public int undo() {
        if (open <= 0) {
            return NONE;
        }
        open--;
        return open;
    }

    public int crash() {
        int before = open;
        open = 0;
        return before;
    }

    // ---- questions about one node or arrow ----

    public int labels(int n) {
        return goodNode(n) ? nodeLabels[nodeSlot(n)] : BAD;
    }

    public int value(int n) {
        return goodNode(n) ? nodeValue[nodeSlot(n)] : 0;
    }

    public int look(int a, int what) {
        if (!goodArrow(a)) {
            return BAD;
        }
        int i = arrowSlot(a);
        switch (what) {
            case 0:
                return arrowFrom[i];
            case 1:
                return arrowTo[i];
            case 2:
                return arrowType[i];
            case 3:
                return arrowWeight[i];
            default:
                return BAD;
        }
    }

    public int degree(int n, int type, int way) {
        if (!goodNode(n) || !goodType(type) || !goodWay(way)) {
            return BAD;
        }
        return countMatching(n, type, way);
    }

    public int arrowAt(int code, int k) {
        if (code < 0) {
            return BAD;
        }
        int type = code % 16;
        int n = code / 16 % NODES;
        int way = code / 16 / NODES;
        if (!goodNode(n) || !goodType(type) || !goodWay(way)) {
            return BAD;
        }
        int lesser = 0;
        for (int a = 0; a < ARROWS; a++) {
            if (matches(a, n, type, way)) {
                if (lesser == k) {
                    return a;
                }
                lesser++;
            }
        }
        return NONE;
    }

    // ---- questions about the whole graph ----

    public int find(int labels, int value) {
        if (!goodLabels(labels)) {
            return BAD;
        }
        for (int n = 0; n < NODES; n++) {
            if (goodNode(n) && hasLabels(n, labels) && nodeValue[nodeSlot(n)] == value) {
                return n;
            }
        }
        return NONE;
    }

    public int chains(int t, int u, int labels) {
        if (!goodType(t) || !goodType(u) || !goodLabels(labels)) {
            return BAD;
        }
        int count = 0;
        for (int r = 0; r < ARROWS; r++) {
            if (isOfType(r, t)) {
                int middle = arrowTo[arrowSlot(r)];
                if (hasLabels(middle, labels)) {
                    count += countNextArrows(r, middle, u);
                }
            }
        }
        return count;
    }

    public int distance(int ends, int type) {
        if (!goodEnds(ends) || !goodType(type)) {
            return BAD;
        }
        return leastCost(ends, type, false);
    }

    public int cheapest(int ends, int type) {
        if (!goodEnds(ends) || !goodType(type)) {
            return BAD;
        }
        return leastCost(ends, type, true);
    }

    public int rounds(int type) {
        if (!goodType(type)) {
            return BAD;
        }
        fillReach(type);
        int groups = 0;
        for (int n = 0; n < NODES; n++) {
            if (goodNode(n) && isLeastOfItsGroup(n)) {
                groups++;
            }
        }
        return groups;
    }

    public int faults() {
        int count = 0;
        for (int n = 0; n < NODES; n++) {
            if (goodNode(n) && !isSoundNode(n)) {
                count++;
            }
        }
        for (int a = 0; a < ARROWS; a++) {
            if (goodArrow(a) && !isSoundArrow(a)) {
                count++;
            }
        }
        return count;
    }

    public int digest() {
        int sum = 0;
        for (int n = 0; n < NODES; n++) {
            if (goodNode(n)) {
                int i = nodeSlot(n);
                sum += (n + 1) * (nodeLabels[i] + 3 * nodeValue[i]);
            }
        }
        for (int a = 0; a < ARROWS; a++) {
            if (goodArrow(a)) {
                int i = arrowSlot(a);
                int parts = arrowFrom[i] + 5 * arrowTo[i] + 7 * arrowType[i] + 11 * arrowWeight[i];
                sum += (a + 13) * parts;
            }
        }
        return sum;
    }

    // ---- where the innermost picture holds a node or an arrow ----

    private int nodeSlot(int n) {
        return open * NODES + n;
    }

    private int arrowSlot(int a) {
        return open * ARROWS + a;
    }

    // ---- tests of arguments ----

    private boolean goodNode(int n) {
        return n >= 0 && n < NODES && nodeThere[nodeSlot(n)];
    }

    private boolean goodArrow(int a) {
        return a >= 0 && a < ARROWS && arrowThere[arrowSlot(a)];
    }

    private boolean goodEnds(int ends) {
        return ends >= 0 && goodNode(ends / NODES) && goodNode(ends % NODES);
    }

    private boolean goodLabels(int labels) {
        return labels >= 0 && labels <= MOST_LABELS;
    }

    private boolean goodWeight(int weight) {
        return weight >= 0 && weight <= MOST_WEIGHT;
    }

    private boolean goodType(int type) {
        return type >= 0 && type <= ANY_TYPE;
    }

    private boolean goodWay(int way) {
        return way >= WAY_FROM && way <= WAY_BOTH;
    }

    // ---- parts of the changes ----

    private void copyPicture(int source, int target) {
        for (int n = 0; n < NODES; n++) {
            int s = source * NODES + n;
            int t = target * NODES + n;
            nodeThere[t] = nodeThere[s];
            nodeLabels[t] = nodeLabels[s];
            nodeValue[t] = nodeValue[s];
        }
        for (int a = 0; a < ARROWS; a++) {
            int s = source * ARROWS + a;
            int t = target * ARROWS + a;
            arrowThere[t] = arrowThere[s];
            arrowFrom[t] = arrowFrom[s];
            arrowTo[t] = arrowTo[s];
            arrowType[t] = arrowType[s];
            arrowWeight[t] = arrowWeight[s];
        }
    }

    private void cutAllTouching(int n) {
        for (int a = 0; a < ARROWS; a++) {
            if (matches(a, n, ANY_TYPE, WAY_BOTH)) {
                arrowThere[arrowSlot(a)] = false;
            }
        }
    }

    private int countArrows() {
        int count = 0;
        for (int a = 0; a < ARROWS; a++) {
            if (goodArrow(a)) {
                count++;
            }
        }
        return count;
    }

    // ---- parts of the questions ----

    private boolean hasLabels(int n, int labels) {
        return (nodeLabels[nodeSlot(n)] & labels) == labels;
    }

    private boolean isOfType(int a, int type) {
        return goodArrow(a) && (type == ANY_TYPE || arrowType[arrowSlot(a)] == type);
    }

    private boolean matches(int a, int n, int type, int way) {
        if (!isOfType(a, type)) {
            return false;
        }
        int i = arrowSlot(a);
        boolean leaves = way != WAY_TO && arrowFrom[i] == n;
        boolean arrives = way != WAY_FROM && arrowTo[i] == n;
        return leaves || arrives;
    }

    private int countMatching(int n, int type, int way) {
        int count = 0;
        for (int a = 0; a < ARROWS; a++) {
            if (matches(a, n, type, way)) {
                count++;
            }
        }
        return count;
    }

    private int countNextArrows(int r, int middle, int type) {
        int count = 0;
        for (int s = 0; s < ARROWS; s++) {
            if (s != r && matches(s, middle, type, WAY_FROM)) {
                count++;
            }
        }
        return count;
    }

    private int leastCost(int ends, int type, boolean weighted) {
        for (int n = 0; n < NODES; n++) {
            cost[n] = FAR;
        }
        cost[ends / NODES] = 0;
        // No weight is below 0, so a least way passes no node twice: fewer arrows than nodes.
        for (int step = 1; step < NODES; step++) {
            lowerCosts(type, weighted);
        }
        int least = cost[ends % NODES];
        return least < FAR ? least : NONE;
    }

    private void lowerCosts(int type, boolean weighted) {
        for (int a = 0; a < ARROWS; a++) {
            if (isOfType(a, type)) {
                int i = arrowSlot(a);
                int through = cost[arrowFrom[i]] + (weighted ? arrowWeight[i] : 1);
                if (through < cost[arrowTo[i]]) {
                    cost[arrowTo[i]] = through;
                }
            }
        }
    }

    private void fillReach(int type) {
        for (int n = 0; n < NODES; n++) {
            reach[n] = 1 << n;
        }
        for (int a = 0; a < ARROWS; a++) {
            if (isOfType(a, type)) {
                int i = arrowSlot(a);
                reach[arrowFrom[i]] |= 1 << arrowTo[i];
            }
        }
        // The middle node has to be the outer loop, or ways over several middles are missed.
        for (int middle = 0; middle < NODES; middle++) {
            for (int n = 0; n < NODES; n++) {
                if (reaches(n, middle)) {
                    reach[n] |= reach[middle];
                }
            }
        }
    }

    private boolean reaches(int n, int m) {
        return (reach[n] >> m & 1) == 1;
    }

    private boolean isLeastOfItsGroup(int n) {
        for (int m = 0; m < n; m++) {
            if (reaches(n, m) && reaches(m, n)) {
                return false;
            }
        }
        return true;
    }

    private boolean isSoundNode(int n) {
        int i = nodeSlot(n);
        return goodLabels(nodeLabels[i]);
    }

    private boolean isSoundArrow(int a) {
        int i = arrowSlot(a);
        boolean soundEnds = goodNode(arrowFrom[i]) && goodNode(arrowTo[i]);
        boolean soundType = arrowType[i] >= 0 && arrowType[i] < TYPES;
        return soundEnds && soundType && goodWeight(arrowWeight[i]);
    }
}
