import java.util.ArrayDeque;
import java.util.ArrayList;
import java.util.Arrays;
import java.util.Deque;
import java.util.List;
import java.util.Map;
import java.util.TreeMap;

/**
 * Long runs of calls on the class, held against a model that keeps its state in another way (maps,
 * and for each open transaction the maps as they were before it) and asks by other ways of search.
 */
public final class ModelTest {
    private static final int RUNS = 600;
    private static final int CALLS = 512;
    private static final int[] ODD = {-1, -2, 12, 13, 24, 25, 100, 144, 576, 1000,
        Integer.MIN_VALUE, Integer.MAX_VALUE};
    private static final Checks CHECKS = new Checks("ModelTest");

    private static long seed;

    /** A fixed sequence, so that every run of the test makes the same calls. */
    private static int pick(int bound) {
        seed = seed * 6364136223846793005L + 1442695040888963407L;
        return (int) ((seed >>> 33) % bound);
    }

    private static int oddOr(int bound) {
        return pick(25) == 0 ? ODD[pick(ODD.length)] : pick(bound);
    }

    public static void main(String[] args) {
        for (int run = 0; run < RUNS; run++) {
            seed = run;
            oneRun(run);
        }
        CHECKS.finish();
    }

    private static void oneRun(int run) {
        ArrowStore x = new ArrowStore();
        Model m = new Model();
        int nodes = 2 + pick(11);
        for (int call = 0; call < CALLS; call++) {
            String at = "run " + run + ", call " + call + ": ";
            int kind = pick(30);
            if (kind < 16) {
                change(at, kind, x, m, nodes);
            } else {
                ask(at, kind, x, m, nodes);
            }
        }
    }

    private static int node(int nodes) {
        return oddOr(nodes);
    }

    private static int ends(int nodes) {
        return pick(25) == 0 ? ODD[pick(ODD.length)] : 12 * pick(nodes) + pick(nodes);
    }

    private static void change(String at, int kind, ArrowStore x, Model m, int nodes) {
        int n = node(nodes);
        int a = oddOr(24);
        int labels = oddOr(8);
        int value = pick(3) == 0 ? (int) seed : pick(4);
        int ends = ends(nodes);
        int type = oddOr(4);
        int weight = oddOr(pick(2) == 0 ? 100 : 10);
        boolean all = pick(2) == 0;
        switch (kind) {
            case 0: case 1: case 2:
                CHECKS.due(at + "node(" + labels + ", " + value + ")",
                    x.node(labels, value), m.node(labels, value));
                break;
            case 3: case 4: case 5: case 6: case 7:
                CHECKS.due(at + "arrow(" + ends + ", " + type + ", " + weight + ")",
                    x.arrow(ends, type, weight), m.arrow(ends, type, weight));
                break;
            case 8:
                CHECKS.due(at + "setNode(" + n + ", " + labels + ", " + value + ")",
                    x.setNode(n, labels, value), m.setNode(n, labels, value));
                break;
            case 9:
                CHECKS.due(at + "setWeight(" + a + ", " + weight + ")",
                    x.setWeight(a, weight), m.setWeight(a, weight));
                break;
            case 10:
                CHECKS.due(at + "cut(" + a + ")", x.cut(a), m.cut(a));
                break;
            case 11:
                n = pick(3) == 0 ? n : -1;
                CHECKS.due(at + "drop(" + n + ", " + all + ")", x.drop(n, all), m.drop(n, all));
                break;
            case 12: case 13:
                CHECKS.due(at + "begin()", x.begin(), m.begin());
                break;
            case 14:
                CHECKS.due(at + "end()", x.end(), m.end());
                break;
            default:
                if (pick(4) == 0) {
                    CHECKS.due(at + "crash()", x.crash(), m.crash());
                } else {
                    CHECKS.due(at + "undo()", x.undo(), m.undo());
                }
        }
    }

    private static void ask(String at, int kind, ArrowStore x, Model m, int nodes) {
        int n = node(nodes);
        int a = oddOr(24);
        int labels = pick(2) == 0 ? 0 : oddOr(8);
        int value = pick(4);
        int ends = ends(nodes);
        int type = oddOr(5);
        int other = oddOr(5);
        int way = oddOr(3);
        int k = oddOr(5);
        int code = pick(5) == 0 ? pick(700) - 20 : 16 * (12 * pick(3) + pick(nodes)) + pick(5);
        switch (kind) {
            case 16:
                CHECKS.due(at + "labels(" + n + ")", x.labels(n), m.labels(n));
                break;
            case 17:
                CHECKS.due(at + "value(" + n + ")", x.value(n), m.value(n));
                break;
            case 18:
                CHECKS.due(at + "look(" + a + ", " + k + ")", x.look(a, k), m.look(a, k));
                break;
            case 19:
                CHECKS.due(at + "degree(" + n + ", " + type + ", " + way + ")",
                    x.degree(n, type, way), m.degree(n, type, way));
                break;
            case 20: case 21:
                CHECKS.due(at + "arrowAt(" + code + ", " + k + ")",
                    x.arrowAt(code, k), m.arrowAt(code, k));
                break;
            case 22:
                CHECKS.due(at + "find(" + labels + ", " + value + ")",
                    x.find(labels, value), m.find(labels, value));
                break;
            case 23:
                CHECKS.due(at + "chains(" + type + ", " + other + ", " + labels + ")",
                    x.chains(type, other, labels), m.chains(type, other, labels));
                break;
            case 24: case 25:
                CHECKS.due(at + "distance(" + ends + ", " + type + ")",
                    x.distance(ends, type), m.distance(ends, type));
                break;
            case 26:
                CHECKS.due(at + "cheapest(" + ends + ", " + type + ")",
                    x.cheapest(ends, type), m.cheapest(ends, type));
                break;
            case 27:
                CHECKS.due(at + "rounds(" + type + ")", x.rounds(type), m.rounds(type));
                break;
            case 28:
                CHECKS.due(at + "faults()", x.faults(), 0);
                break;
            default:
                CHECKS.due(at + "digest()", x.digest(), m.digest());
        }
    }

    /** A node is {labels, value}, an arrow {from, to, type, weight}; neither is ever changed. */
    private static final class Model {
        private TreeMap<Integer, int[]> nodes = new TreeMap<>();
        private TreeMap<Integer, int[]> arrows = new TreeMap<>();
        private final Deque<TreeMap<Integer, int[]>> nodesBefore = new ArrayDeque<>();
        private final Deque<TreeMap<Integer, int[]>> arrowsBefore = new ArrayDeque<>();

        int node(int labels, int value) {
            if (outside(labels, 7)) {
                return -1;
            }
            return put(nodes, 12, new int[] {labels, value});
        }

        int arrow(int ends, int type, int weight) {
            if (badEnds(ends) || outside(type, 3) || outside(weight, 99)) {
                return -1;
            }
            return put(arrows, 24, new int[] {ends / 12, ends % 12, type, weight});
        }

        int setNode(int n, int labels, int value) {
            if (!nodes.containsKey(n) || outside(labels, 7)) {
                return -1;
            }
            return nodes.put(n, new int[] {labels, value})[0];
        }

        int setWeight(int a, int weight) {
            if (!arrows.containsKey(a) || outside(weight, 99)) {
                return -1;
            }
            int[] old = arrows.get(a);
            arrows.put(a, new int[] {old[0], old[1], old[2], weight});
            return old[3];
        }

        int cut(int a) {
            return arrows.remove(a) == null ? -1 : arrows.size();
        }

        int drop(int n, boolean all) {
            if (!nodes.containsKey(n)) {
                return -1;
            }
            int before = arrows.size();
            if (!all && arrows.values().stream().anyMatch(r -> r[0] == n || r[1] == n)) {
                return -4;
            }
            arrows.values().removeIf(r -> r[0] == n || r[1] == n);
            nodes.remove(n);
            return before - arrows.size();
        }

        int begin() {
            if (nodesBefore.size() == 4) {
                return -3;
            }
            nodesBefore.push(new TreeMap<>(nodes));
            arrowsBefore.push(new TreeMap<>(arrows));
            return nodesBefore.size();
        }

        int end() {
            if (nodesBefore.isEmpty()) {
                return -2;
            }
            nodesBefore.pop();
            arrowsBefore.pop();
            return nodesBefore.size();
        }

        int undo() {
            if (nodesBefore.isEmpty()) {
                return -2;
            }
            nodes = nodesBefore.pop();
            arrows = arrowsBefore.pop();
            return nodesBefore.size();
        }

        int crash() {
            int open = nodesBefore.size();
            while (undo() >= 0) {
                continue;
            }
            return open;
        }

        int labels(int n) {
            return nodes.containsKey(n) ? nodes.get(n)[0] : -1;
        }

        int value(int n) {
            return nodes.containsKey(n) ? nodes.get(n)[1] : 0;
        }

        int look(int a, int what) {
            return !arrows.containsKey(a) || outside(what, 3) ? -1 : arrows.get(a)[what];
        }

        int degree(int n, int type, int way) {
            return badDegree(n, type, way) ? -1 : arrowsOf(n, type, way).size();
        }

        int arrowAt(int code, int k) {
            int n = code / 16 % 12;
            int way = code / 192;
            if (code < 0 || badDegree(n, code % 16, way)) {
                return -1;
            }
            List<Integer> found = arrowsOf(n, code % 16, way);
            return k < 0 || k >= found.size() ? -2 : found.get(k);
        }

        int find(int labels, int value) {
            if (outside(labels, 7)) {
                return -1;
            }
            for (Map.Entry<Integer, int[]> e : nodes.entrySet()) {
                if ((labels & ~e.getValue()[0]) == 0 && e.getValue()[1] == value) {
                    return e.getKey();
                }
            }
            return -2;
        }

        int chains(int t, int u, int labels) {
            if (outside(t, 4) || outside(u, 4) || outside(labels, 7)) {
                return -1;
            }
            int count = 0;
            for (Map.Entry<Integer, int[]> r : arrows.entrySet()) {
                for (Map.Entry<Integer, int[]> s : arrows.entrySet()) {
                    boolean differ = !r.getKey().equals(s.getKey());
                    boolean types = isOf(r.getValue(), t) && isOf(s.getValue(), u);
                    boolean meet = r.getValue()[1] == s.getValue()[0];
                    if (differ && types && meet) {
                        count += (labels & ~nodes.get(r.getValue()[1])[0]) == 0 ? 1 : 0;
                    }
                }
            }
            return count;
        }

        /** Breadth first. */
        int distance(int ends, int type) {
            if (badEnds(ends) || outside(type, 4)) {
                return -1;
            }
            int[] far = new int[12];
            Arrays.fill(far, -2);
            far[ends / 12] = 0;
            Deque<Integer> waiting = new ArrayDeque<>();
            waiting.add(ends / 12);
            while (!waiting.isEmpty()) {
                int n = waiting.remove();
                for (int[] r : arrows.values()) {
                    if (r[0] == n && isOf(r, type) && far[r[1]] == -2) {
                        far[r[1]] = far[n] + 1;
                        waiting.add(r[1]);
                    }
                }
            }
            return far[ends % 12];
        }

        /** The sums of all couples of nodes, over ever more middle nodes. */
        int cheapest(int ends, int type) {
            if (badEnds(ends) || outside(type, 4)) {
                return -1;
            }
            long[][] sum = new long[12][12];
            for (int n = 0; n < 12; n++) {
                Arrays.fill(sum[n], Integer.MAX_VALUE);
                sum[n][n] = 0;
            }
            for (int[] r : arrows.values()) {
                if (isOf(r, type)) {
                    sum[r[0]][r[1]] = Math.min(sum[r[0]][r[1]], r[3]);
                }
            }
            for (int k = 0; k < 12; k++) {
                for (int i = 0; i < 12; i++) {
                    for (int j = 0; j < 12; j++) {
                        sum[i][j] = Math.min(sum[i][j], sum[i][k] + sum[k][j]);
                    }
                }
            }
            long least = sum[ends / 12][ends % 12];
            return least == Integer.MAX_VALUE ? -2 : (int) least;
        }

        int rounds(int type) {
            if (outside(type, 4)) {
                return -1;
            }
            TreeMap<Integer, Integer> leastOfGroup = new TreeMap<>();
            for (int n : nodes.keySet()) {
                for (int m : nodes.keySet()) {
                    if (distance(12 * n + m, type) >= 0 && distance(12 * m + n, type) >= 0) {
                        leastOfGroup.putIfAbsent(n, m);
                    }
                }
            }
            return (int) leastOfGroup.values().stream().distinct().count();
        }

        int digest() {
            int sum = 0;
            for (Map.Entry<Integer, int[]> e : nodes.entrySet()) {
                sum += (e.getKey() + 1) * (e.getValue()[0] + 3 * e.getValue()[1]);
            }
            for (Map.Entry<Integer, int[]> e : arrows.entrySet()) {
                int[] r = e.getValue();
                sum += (e.getKey() + 13) * (r[0] + 5 * r[1] + 7 * r[2] + 11 * r[3]);
            }
            return sum;
        }

        private static boolean outside(int number, int most) {
            return number < 0 || number > most;
        }

        private static boolean isOf(int[] arrow, int type) {
            return type == 4 || arrow[2] == type;
        }

        private boolean badEnds(int ends) {
            return ends < 0 || !nodes.containsKey(ends / 12) || !nodes.containsKey(ends % 12);
        }

        private boolean badDegree(int n, int type, int way) {
            return !nodes.containsKey(n) || outside(type, 4) || outside(way, 2);
        }

        private static int put(TreeMap<Integer, int[]> map, int most, int[] record) {
            for (int k = 0; k < most; k++) {
                if (!map.containsKey(k)) {
                    map.put(k, record);
                    return k;
                }
            }
            return -3;
        }

        private List<Integer> arrowsOf(int n, int type, int way) {
            List<Integer> found = new ArrayList<>();
            for (Map.Entry<Integer, int[]> e : arrows.entrySet()) {
                int[] r = e.getValue();
                boolean from = r[0] == n && way != 1;
                boolean to = r[1] == n && way != 0;
                if (isOf(r, type) && (from || to)) {
                    found.add(e.getKey());
                }
            }
            return found;
        }
    }
}
