import java.util.function.ToIntFunction;

/** The edges that the section "Terms" and promise 1 name, a test for each of their sentences. */
public final class EdgesTermsTest {
    private static final int BAD = ArrowStore.BAD;
    private static final int FULL = ArrowStore.FULL;
    private static final int NONE = ArrowStore.NONE;
    private static final int LEAST = Integer.MIN_VALUE;
    private static final int GREATEST = Integer.MAX_VALUE;
    private static final Checks CHECKS = new Checks("EdgesTermsTest");

    public static void main(String[] args) {
        atFirstThereAreNoNodes();
        atFirstThereAreNoArrows();
        atFirstNoneIsOpen();
        nodesAre0To11();
        labelsAre0To7();
        aValueIsAnyInt();
        arrowsAre0To23();
        anArrowMayGoToTheSameNode();
        allPairsOfEnds();
        typesAre0To3();
        weightsAre0To99();
        severalArrowsMayBeAlike();
        atMostFourAreOpen();
        aChangeWithNoneOpenIsKeptAtOnce();
        aChangeBelongsToTheInnermost();
        endingHandsToTheOneAround();
        endingTheOutermostKeeps();
        undoingTakesAllBack();
        undoingTakesBackAnEmptiedAndAFilledStore();
        aCrashUndoesAllOpenOnes();
        theOrderOfTheTests();
        type4StandsForAnyType();
        questionsChangeNothing();
        refusedQuestionsChangeNothing();
        fiveHundredAndTwelveCalls();
        CHECKS.finish();
    }

    /** "At first there are none." */
    private static void atFirstThereAreNoNodes() {
        ArrowStore x = new ArrowStore();
        for (int n = 0; n < 12; n++) {
            CHECKS.due("first labels(" + n + ")", x.labels(n), BAD);
        }
        CHECKS.due("first find(0, 0)", x.find(0, 0), NONE);
        CHECKS.due("first rounds(4)", x.rounds(4), 0);
        CHECKS.due("first digest()", x.digest(), 0);
        CHECKS.due("first node", x.node(0, 0), 0);
    }

    private static void atFirstThereAreNoArrows() {
        ArrowStore x = Checks.storeWithNodes(12);
        for (int a = 0; a < 24; a++) {
            CHECKS.due("first look(" + a + ", 0)", x.look(a, 0), BAD);
        }
        for (int n = 0; n < 12; n++) {
            CHECKS.due("first degree(" + n + ", 4, 2)", x.degree(n, 4, 2), 0);
        }
        CHECKS.due("first chains(4, 4, 0)", x.chains(4, 4, 0), 0);
        CHECKS.due("first digest() of the arrows", x.digest(), 0);
        CHECKS.due("first arrow", x.arrow(0, 0, 0), 0);
    }

    /** "at most four are open, none at first" */
    private static void atFirstNoneIsOpen() {
        CHECKS.due("first crash()", new ArrowStore().crash(), 0);
        CHECKS.due("first end()", new ArrowStore().end(), NONE);
        CHECKS.due("first undo()", new ArrowStore().undo(), NONE);
        CHECKS.due("first begin()", new ArrowStore().begin(), 1);
    }

    /** "There may be NODES 0 .. 11" */
    private static void nodesAre0To11() {
        for (int open = 0; open <= 4; open++) {
            ArrowStore x = Stores.FULL.apply(open);
            CHECKS.due("labels(0) of twelve", x.labels(0), 0);
            CHECKS.due("labels(11) of twelve", x.labels(11), 3);
            for (int n : new int[] {LEAST, -48, -12, -1, 12, 13, 59, 60, GREATEST}) {
                CHECKS.due("labels(" + n + ") of twelve", x.labels(n), BAD);
                CHECKS.due("value(" + n + ") of twelve", x.value(n), 0);
                CHECKS.due("degree(" + n + ", 4, 2) of twelve", x.degree(n, 4, 2), BAD);
                CHECKS.due("setNode(" + n + ", 0, 0) of twelve", x.setNode(n, 0, 0), BAD);
                CHECKS.due("drop(" + n + ", true) of twelve", x.drop(n, true), BAD);
            }
        }
    }

    /** "LABELS (a set of 0, 1, 2, written as a number 0 .. 7)" */
    private static void labelsAre0To7() {
        ArrowStore x = new ArrowStore();
        for (int labels = 0; labels <= 7; labels++) {
            CHECKS.due("node with labels " + labels, x.node(labels, 0), labels);
        }
        for (int n = 0; n <= 7; n++) {
            CHECKS.due("labels(" + n + ")", x.labels(n), n);
        }
    }

    /** "a VALUE, an int" */
    private static void aValueIsAnyInt() {
        int[] values = {LEAST, LEAST + 1, -1, 0, 1, GREATEST - 1, GREATEST};
        ArrowStore x = new ArrowStore();
        for (int value : values) {
            x.node(0, value);
        }
        for (int n = 0; n < values.length; n++) {
            CHECKS.due("value(" + n + ")", x.value(n), values[n]);
            CHECKS.due("find(0, " + values[n] + ")", x.find(0, values[n]), n);
        }
    }

    /** "ARROWS 0 .. 23" */
    private static void arrowsAre0To23() {
        for (int open = 0; open <= 4; open++) {
            ArrowStore x = Stores.FULL.apply(open);
            CHECKS.due("look(0, 3) of 24", x.look(0, 3), 0);
            CHECKS.due("look(23, 3) of 24", x.look(23, 3), 92);
            for (int a : new int[] {LEAST, -96, -24, -1, 24, 25, 119, 120, GREATEST}) {
                CHECKS.due("look(" + a + ", 3) of 24", x.look(a, 3), BAD);
                CHECKS.due("setWeight(" + a + ", 0) of 24", x.setWeight(a, 0), BAD);
                CHECKS.due("cut(" + a + ") of 24", x.cut(a), BAD);
            }
        }
    }

    /** "each from a node to a node (also the same)" */
    private static void anArrowMayGoToTheSameNode() {
        ArrowStore x = Checks.storeWithNodes(12);
        for (int n = 0; n < 12; n++) {
            CHECKS.due("arrow " + n + " -> " + n, x.arrow(Checks.ends(n, n), 0, 0), n);
            CHECKS.due("its from", x.look(n, 0), n);
            CHECKS.due("its to", x.look(n, 1), n);
        }
    }

    private static void allPairsOfEnds() {
        for (int ends = 0; ends < 144; ends++) {
            ArrowStore x = Checks.storeWithNodes(12);
            CHECKS.due("arrow(" + ends + ", 0, 0)", x.arrow(ends, 0, 0), 0);
            CHECKS.due("from of " + ends, x.look(0, 0), ends / 12);
            CHECKS.due("to of " + ends, x.look(0, 1), ends % 12);
            CHECKS.due("distance(" + ends + ", 0)", x.distance(ends, 0), ends % 13 == 0 ? 0 : 1);
        }
    }

    /** "with a TYPE 0 .. 3" */
    private static void typesAre0To3() {
        ArrowStore x = Checks.storeWithNodes(1);
        for (int type = 0; type <= 3; type++) {
            CHECKS.due("arrow of type " + type, x.arrow(0, type, 0), type);
            CHECKS.due("its type", x.look(type, 2), type);
        }
    }

    /** "and a WEIGHT 0 .. 99" */
    private static void weightsAre0To99() {
        ArrowStore x = Stores.loops(1);
        for (int weight = 0; weight <= 99; weight++) {
            x.setWeight(0, weight);
            CHECKS.due("weight " + weight + " by setWeight", x.look(0, 3), weight);
            x.cut(0);
            CHECKS.due("arrow of weight " + weight, x.arrow(0, 0, weight), 0);
            CHECKS.due("its weight", x.look(0, 3), weight);
        }
    }

    /** "There may be several arrows with the same ends and type." */
    private static void severalArrowsMayBeAlike() {
        ArrowStore x = Checks.storeWithNodes(2);
        for (int a = 0; a < 24; a++) {
            CHECKS.due("the like arrow " + a, x.arrow(1, 3, 50), a);
        }
        CHECKS.due("degree of 24 alike", x.degree(0, 3, 0), 24);
    }

    /** "at most four are open" */
    private static void atMostFourAreOpen() {
        ArrowStore x = new ArrowStore();
        for (int depth = 1; depth <= 4; depth++) {
            CHECKS.due("begin() number " + depth, x.begin(), depth);
        }
        CHECKS.due("begin() number 5", x.begin(), FULL);
        CHECKS.due("four are open", x.crash(), 4);
    }

    /** "if none is open, it is kept at once" */
    private static void aChangeWithNoneOpenIsKeptAtOnce() {
        ArrowStore x = Checks.storeWithNodes(3);
        x.arrow(0, 0, 1);
        x.arrow(0, 0, 2);
        x.setNode(0, 5, 6);
        x.setWeight(0, 7);
        x.cut(1);
        x.drop(2, false);
        String kept = Stores.picture(x);
        x.crash();
        x.undo();
        CHECKS.duePicture("what is kept stays", x, kept);
        CHECKS.due("labels(0) kept", x.labels(0), 5);
        CHECKS.due("look(0, 3) kept", x.look(0, 3), 7);
        CHECKS.due("look(1, 3) kept away", x.look(1, 3), BAD);
        CHECKS.due("labels(2) kept away", x.labels(2), BAD);
    }

    /** "Every change belongs to the innermost open one" */
    private static void aChangeBelongsToTheInnermost() {
        for (int open = 1; open <= 4; open++) {
            ArrowStore x = Stores.EMPTY.apply(open - 1);
            x.node(1, 1);
            x.begin();
            x.node(2, 2);
            x.undo();
            CHECKS.due("the innermost of " + open + " is undone", x.labels(1), BAD);
            CHECKS.due("the one around is not", x.labels(0), 1);
        }
    }

    /** "ENDING the innermost one makes its changes belong to the one around it" */
    private static void endingHandsToTheOneAround() {
        for (int open = 2; open <= 4; open++) {
            ArrowStore x = Stores.EMPTY.apply(open);
            x.node(3, 4);
            x.end();
            CHECKS.due("still there after end() of " + open, x.labels(0), 3);
            x.undo();
            CHECKS.due("no more after undo() of the one around", x.labels(0), BAD);
        }
    }

    /** "(or be kept, if there is none)" */
    private static void endingTheOutermostKeeps() {
        ArrowStore x = Stores.EMPTY.apply(4);
        x.node(3, 4);
        for (int depth = 3; depth >= 0; depth--) {
            CHECKS.due("end() to " + depth, x.end(), depth);
        }
        CHECKS.due("crash() after all ended", x.crash(), 0);
        CHECKS.due("kept", x.labels(0), 3);
    }

    /** "UNDOING it takes all its changes back." */
    private static void undoingTakesAllBack() {
        CHECKS.unchanged("begin, every change, undo", Stores.BUSY, x -> {
            if (x.begin() == ArrowStore.FULL) {
                return 0;
            }
            x.setNode(0, 7, 77);
            x.setNode(0, 6, 66);
            x.setWeight(0, 88);
            x.node(1, 11);
            x.arrow(0, 2, 22);
            x.cut(3);
            x.drop(2, true);
            x.drop(5, false);
            x.node(3, 33);
            x.arrow(Checks.ends(2, 2), 1, 44);
            return x.undo();
        });
    }

    private static void undoingTakesBackAnEmptiedAndAFilledStore() {
        for (int open = 0; open < 4; open++) {
            CHECKS.unchangedAt(open, "begin, empty, undo", Stores.FULL, x -> {
                x.begin();
                for (int n = 0; n < 12; n++) {
                    x.drop(n, true);
                }
                return x.undo();
            });
            CHECKS.unchangedAt(open, "begin, fill, undo", Stores.EMPTY, x -> {
                x.begin();
                for (int k = 0; k < 24; k++) {
                    x.node(7, k);
                    x.arrow(0, 3, k);
                }
                return x.undo();
            });
        }
    }

    /** "A CRASH undoes all open ones." */
    private static void aCrashUndoesAllOpenOnes() {
        String kept = Stores.picture(Stores.BUSY.apply(0));
        for (int open = 0; open <= 4; open++) {
            ArrowStore x = Stores.BUSY.apply(open);
            CHECKS.due("crash() of " + open, x.crash(), open);
            CHECKS.duePicture("all undone", x, kept);
            CHECKS.due("end() after crash()", x.end(), NONE);
            CHECKS.due("undo() after crash()", x.undo(), NONE);
            CHECKS.due("crash() again", x.crash(), 0);
        }
    }

    /** "In every method the tests are made in the order named" */
    private static void theOrderOfTheTests() {
        CHECKS.due("node: BAD before FULL", Stores.FULL.apply(0).node(8, 0), BAD);
        CHECKS.due("arrow: ends before FULL", Stores.FULL.apply(0).arrow(144, 0, 0), BAD);
        CHECKS.due("arrow: type before FULL", Stores.FULL.apply(0).arrow(0, 4, 0), BAD);
        CHECKS.due("arrow: weight before FULL", Stores.FULL.apply(0).arrow(0, 0, 100), BAD);
        CHECKS.due("drop: BAD before HELD", Stores.FULL.apply(0).drop(12, false), BAD);
        CHECKS.due("arrowAt: BAD before NONE", new ArrowStore().arrowAt(0, 0), BAD);
        CHECKS.due("find: BAD before NONE", new ArrowStore().find(8, 0), BAD);
        CHECKS.due("distance: ends before NONE", new ArrowStore().distance(0, 0), BAD);
        CHECKS.due("distance: type before NONE", Checks.storeWithNodes(2).distance(1, 5), BAD);
        CHECKS.due("cheapest: ends before NONE", new ArrowStore().cheapest(0, 0), BAD);
        CHECKS.due("cheapest: type before NONE", Checks.storeWithNodes(2).cheapest(1, 5), BAD);
    }

    /** "a type if it is 0 .. 3, or 4, which stands for any type" */
    private static void type4StandsForAnyType() {
        ArrowStore x = Checks.storeWithNodes(2);
        for (int type = 0; type <= 3; type++) {
            x.arrow(1, type, 10 + type);
            x.arrow(12, type, 20 + type);
        }
        for (int type = 0; type <= 4; type++) {
            int each = type == 4 ? 4 : 1;
            CHECKS.due("degree of type " + type, x.degree(0, type, 0), each);
            CHECKS.due("arrowAt of type " + type, x.arrowAt(Checks.code(0, 0, type), 0), type % 4 * 2);
            CHECKS.due("chains of types " + type, x.chains(type, type, 0), 2 * each * each);
            CHECKS.due("distance of type " + type, x.distance(1, type), 1);
            CHECKS.due("cheapest of type " + type, x.cheapest(1, type), 10 + type % 4);
            CHECKS.due("rounds of type " + type, x.rounds(type), 1);
        }
        CHECKS.due("no arrow has type 4", x.arrow(1, 4, 0), BAD);
    }

    private static void unchanged(String name, ToIntFunction<ArrowStore> call) {
        CHECKS.unchanged(name, Stores.BUSY, call);
        CHECKS.unchanged(name, Stores.FULL, call);
        CHECKS.unchanged(name, Stores.EMPTY, call);
    }

    /** "Questions change nothing." */
    private static void questionsChangeNothing() {
        unchanged("labels(0)", x -> x.labels(0));
        unchanged("value(0)", x -> x.value(0));
        unchanged("look(0, 3)", x -> x.look(0, 3));
        unchanged("degree(0, 4, 2)", x -> x.degree(0, 4, 2));
        unchanged("arrowAt(388, 0)", x -> x.arrowAt(Checks.code(2, 0, 4), 0));
        unchanged("find(0, 0)", x -> x.find(0, 0));
        unchanged("chains(4, 4, 0)", x -> x.chains(4, 4, 0));
        unchanged("distance(2, 4)", x -> x.distance(2, 4));
        unchanged("cheapest(2, 4)", x -> x.cheapest(2, 4));
        unchanged("rounds(4)", x -> x.rounds(4));
        unchanged("faults()", x -> x.faults());
        unchanged("digest()", x -> x.digest());
    }

    /** "A refused call changes nothing": for the changes see EdgesChangesTest. */
    private static void refusedQuestionsChangeNothing() {
        unchanged("labels(12)", x -> x.labels(12));
        unchanged("value(12)", x -> x.value(12));
        unchanged("look(0, 4)", x -> x.look(0, 4));
        unchanged("degree(0, 5, 2)", x -> x.degree(0, 5, 2));
        unchanged("arrowAt(0, 24)", x -> x.arrowAt(0, 24));
        unchanged("find(8, 0)", x -> x.find(8, 0));
        unchanged("chains(5, 4, 0)", x -> x.chains(5, 4, 0));
        unchanged("distance(-1, 4)", x -> x.distance(-1, 4));
        unchanged("cheapest(-1, 4)", x -> x.cheapest(-1, 4));
        unchanged("rounds(5)", x -> x.rounds(5));
    }

    /** "An object is used for at most 512 calls": the last of them is answered as due. */
    private static void fiveHundredAndTwelveCalls() {
        ArrowStore x = new ArrowStore();
        x.node(0, 0);
        for (int k = 1; k < 511; k += 2) {
            CHECKS.due("begin() as call " + (k + 1), x.begin(), 1);
            CHECKS.due("end() as call " + (k + 2), x.end(), 0);
        }
        CHECKS.due("drop as call 512", x.drop(0, false), 0);
        ArrowStore y = Checks.storeWithNodes(1);
        Stores.beginTimes(y, 4);
        for (int k = 0; k < 505; k++) {
            y.setNode(0, k % 8, k);
        }
        CHECKS.due("crash() as call 511", y.crash(), 4);
        CHECKS.due("value(0) as call 512", y.value(0), 0);
    }
}
