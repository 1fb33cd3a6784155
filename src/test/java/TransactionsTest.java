/** Promises 8 to 11: transactions within transactions. */
public final class TransactionsTest {
    private static final int BAD = ArrowStore.BAD;
    private static final int FULL = ArrowStore.FULL;
    private static final int NONE = ArrowStore.NONE;
    private static final Checks CHECKS = new Checks("TransactionsTest");

    public static void main(String[] args) {
        promise8Begin();
        promise9End();
        promise9EndKeepsOrHandsOutward();
        promise9EndEveryKindOfChange();
        promise10Undo();
        promise10UndoEveryKindOfChange();
        promise10UndoFreesNumbers();
        promise11Crash();
        promise11CrashUndoesEndedInnerOnes();
        refusedCallsKeepTheDepth();
        numbersTooGreatAreNotGoodAtAnyDepth();
        longRuns();
        CHECKS.finish();
    }

    private static void promise8Begin() {
        ArrowStore x = Checks.storeWithNodes(1);
        for (int depth = 1; depth <= 4; depth++) {
            CHECKS.due("begin() " + depth, x.begin(), depth);
            CHECKS.due("what was there is seen within", x.labels(0), 0);
        }
        x.setNode(0, 6, 7);
        CHECKS.due("a fifth begin()", x.begin(), FULL);
        CHECKS.due("a refused begin changes nothing", x.labels(0), 6);
        CHECKS.due("four are open still", x.end(), 3);
        CHECKS.due("and one more may be opened", x.begin(), 4);
    }

    private static void promise9End() {
        ArrowStore x = new ArrowStore();
        CHECKS.due("end() with none open", x.end(), NONE);
        x.begin();
        x.begin();
        CHECKS.due("end() of the second", x.end(), 1);
        CHECKS.due("end() of the first", x.end(), 0);
        CHECKS.due("end() too often", x.end(), NONE);
        x.node(5, 5);
        CHECKS.due("end() after a change outside", x.end(), NONE);
        CHECKS.due("the change stays", x.labels(0), 5);
    }

    private static void promise9EndKeepsOrHandsOutward() {
        ArrowStore x = new ArrowStore();
        x.begin();
        x.node(1, 1);
        x.begin();
        x.node(2, 2);
        CHECKS.due("end() of the inner", x.end(), 1);
        CHECKS.due("its change is seen around it", x.labels(1), 2);
        CHECKS.due("undo() of the outer", x.undo(), 0);
        CHECKS.due("takes back its own", x.labels(0), BAD);
        CHECKS.due("and what was handed to it", x.labels(1), BAD);
        x.begin();
        x.node(3, 3);
        x.end();
        CHECKS.due("undo() after the end", x.undo(), NONE);
        CHECKS.due("crash() after the end", x.crash(), 0);
        CHECKS.due("what was ended is kept", x.labels(0), 3);
    }

    private static void promise9EndEveryKindOfChange() {
        ArrowStore x = Checks.storeWithNodes(4);
        x.setNode(0, 4, 44);
        for (int a = 0; a < 3; a++) {
            x.arrow(Checks.ends(1, 2), 2, 22);
        }
        x.begin();
        CHECKS.due("value(0) within", x.value(0), 44);
        checkArrow(x, 2, 1, 2, 2, 22);
        x.begin();
        x.node(7, 70);
        x.setNode(0, 1, -1);
        x.drop(3, false);
        x.cut(0);
        x.arrow(Checks.ends(4, 0), 3, 9);
        x.setWeight(1, 99);
        x.cut(2);
        x.end();
        CHECKS.due("end()", x.end(), 0);
        CHECKS.due("labels(4)", x.labels(4), 7);
        CHECKS.due("value(4)", x.value(4), 70);
        CHECKS.due("labels(0)", x.labels(0), 1);
        CHECKS.due("value(0)", x.value(0), -1);
        CHECKS.due("labels(3)", x.labels(3), BAD);
        checkArrow(x, 0, 4, 0, 3, 9);
        checkArrow(x, 1, 1, 2, 2, 99);
        CHECKS.due("look(2, 0)", x.look(2, 0), BAD);
    }

    private static void checkArrow(ArrowStore x, int a, int... want) {
        for (int what = 0; what < 4; what++) {
            CHECKS.due("look(" + a + ", " + what + ")", x.look(a, what), want[what]);
        }
    }

    private static void promise10Undo() {
        ArrowStore x = new ArrowStore();
        CHECKS.due("undo() with none open", x.undo(), NONE);
        x.node(1, 1);
        CHECKS.due("undo() doesn't take back what is kept", x.undo(), NONE);
        CHECKS.due("labels(0)", x.labels(0), 1);
        for (int depth = 1; depth <= 4; depth++) {
            x.begin();
            x.setNode(0, depth + 1, depth);
        }
        for (int depth = 3; depth >= 0; depth--) {
            CHECKS.due("undo() to " + depth, x.undo(), depth);
            CHECKS.due("labels at " + depth, x.labels(0), depth + 1);
        }
        CHECKS.due("undo() too often", x.undo(), NONE);
        CHECKS.due("value(0) at last", x.value(0), 1);
    }

    private static void promise10UndoEveryKindOfChange() {
        ArrowStore x = Checks.storeWithNodes(3);
        x.setNode(0, 4, 44);
        x.arrow(Checks.ends(0, 1), 1, 11);
        x.arrow(Checks.ends(1, 2), 2, 22);
        x.arrow(Checks.ends(2, 2), 3, 33);
        int before = x.digest();
        x.begin();
        x.node(7, 70);
        x.arrow(Checks.ends(3, 0), 0, 9);
        x.setNode(0, 1, -1);
        x.setNode(0, 2, -2);
        x.setWeight(0, 99);
        x.cut(1);
        x.drop(2, true);
        x.node(5, 50);
        x.arrow(Checks.ends(2, 3), 0, 8);
        CHECKS.due("undo()", x.undo(), 0);
        CHECKS.due("labels(0)", x.labels(0), 4);
        CHECKS.due("value(0)", x.value(0), 44);
        CHECKS.due("labels(2)", x.labels(2), 0);
        CHECKS.due("labels(3)", x.labels(3), BAD);
        for (int a = 0; a < 3; a++) {
            CHECKS.due("type of " + a, x.look(a, 2), a + 1);
            CHECKS.due("weight of " + a, x.look(a, 3), 11 * (a + 1));
        }
        CHECKS.due("from of 1", x.look(1, 0), 1);
        CHECKS.due("to of 1", x.look(1, 1), 2);
        CHECKS.due("look(3, 0)", x.look(3, 0), BAD);
        CHECKS.due("digest()", x.digest(), before);
        CHECKS.due("faults()", x.faults(), 0);
    }

    private static void promise10UndoFreesNumbers() {
        ArrowStore x = Checks.storeWithNodes(1);
        x.begin();
        for (int n = 1; n < 12; n++) {
            x.node(0, 0);
        }
        for (int a = 0; a < 24; a++) {
            x.arrow(0, 0, 0);
        }
        CHECKS.due("node within", x.node(0, 0), FULL);
        CHECKS.due("arrow within", x.arrow(0, 0, 0), FULL);
        x.undo();
        CHECKS.due("node after it", x.node(0, 0), 1);
        CHECKS.due("arrow after it", x.arrow(0, 0, 0), 0);
        CHECKS.due("arrows left after it", x.cut(0), 0);
    }

    private static void promise11Crash() {
        ArrowStore x = Checks.storeWithNodes(1);
        CHECKS.due("crash() with none open", x.crash(), 0);
        CHECKS.due("what is kept stays", x.labels(0), 0);
        for (int depth = 1; depth <= 4; depth++) {
            for (int k = 0; k < depth; k++) {
                x.begin();
                x.node(k, k);
                x.setNode(0, 7, 7);
            }
            CHECKS.due("crash() with " + depth + " open", x.crash(), depth);
            CHECKS.due("labels(0) after it", x.labels(0), 0);
            CHECKS.due("labels(1) after it", x.labels(1), BAD);
            CHECKS.due("none is open after it", x.end(), NONE);
        }
    }

    private static void promise11CrashUndoesEndedInnerOnes() {
        ArrowStore x = new ArrowStore();
        x.begin();
        x.begin();
        x.node(1, 1);
        x.end();
        CHECKS.due("crash()", x.crash(), 1);
        CHECKS.due("labels(0)", x.labels(0), BAD);
        x.begin();
        x.node(2, 2);
        x.end();
        x.begin();
        x.drop(0, true);
        CHECKS.due("crash() again", x.crash(), 1);
        CHECKS.due("labels(0) kept", x.labels(0), 2);
    }

    private static void refusedCallsKeepTheDepth() {
        ArrowStore x = new ArrowStore();
        x.begin();
        x.node(9, 0);
        x.arrow(0, 0, 0);
        x.setNode(0, 0, 0);
        x.setWeight(0, 0);
        x.cut(0);
        x.drop(0, true);
        CHECKS.due("begin() after refusals", x.begin(), 2);
    }

    private static void numbersTooGreatAreNotGoodAtAnyDepth() {
        ArrowStore x = Checks.storeWithNodes(1);
        x.arrow(0, 0, 0);
        for (int depth = 1; depth <= 4; depth++) {
            x.begin();
        }
        for (int depth = 4; depth >= 0; depth--) {
            for (int k = -5; k <= 5; k++) {
                int n = k == 0 ? 1 : 12 * k;
                int a = k == 0 ? 1 : 24 * k;
                CHECKS.due("labels(" + n + ") at depth " + depth, x.labels(n), BAD);
                CHECKS.due("look(" + a + ", 0) at depth " + depth, x.look(a, 0), BAD);
            }
            x.undo();
        }
    }

    /** An object is used for up to 512 calls: all of them may belong to one transaction. */
    private static void longRuns() {
        ArrowStore x = Checks.storeWithNodes(12);
        for (int a = 0; a < 24; a++) {
            x.arrow(0, 0, a);
        }
        int before = x.digest();
        x.begin();
        for (int k = 0; k < 235; k++) {
            x.setNode(k % 12, k % 8, k);
            x.setWeight(k % 24, k % 100);
        }
        x.begin();
        CHECKS.due("end()", x.end(), 1);
        CHECKS.due("undo()", x.undo(), 0);
        CHECKS.due("digest()", x.digest(), before);
    }
}
