/** The edges that promises 8 to 11 name, a test for each sentence. */
public final class EdgesTransactionsTest {
    private static final int FULL = ArrowStore.FULL;
    private static final int NONE = ArrowStore.NONE;
    private static final Checks CHECKS = new Checks("EdgesTransactionsTest");

    public static void main(String[] args) {
        beginFourAreOpen();
        beginAnswersHowManyAreOpen();
        beginChangesNoNodeAndNoArrow();
        beginAgainAfterOneIsClosed();
        endNoneIsOpen();
        endAnswersHowManyAreOpen();
        endOfOneWithoutChanges();
        endOfAFullStore();
        undoNoneIsOpen();
        undoAnswersHowManyAreOpen();
        undoOfOneWithoutChanges();
        undoLeavesWhatWasEndedBefore();
        crashAnswersHowManyWereOpen();
        crashWithNoneOpen();
        nothingOfAnUndoneOneComesBack();
        CHECKS.finish();
    }

    // ---- promise 8 ----

    /** "Four are open: FULL." */
    private static void beginFourAreOpen() {
        CHECKS.refusedAt(4, "begin()", Stores.EMPTY, x -> x.begin(), FULL);
        CHECKS.refusedAt(4, "begin()", Stores.BUSY, x -> x.begin(), FULL);
        CHECKS.refusedAt(4, "begin()", Stores.FULL, x -> x.begin(), FULL);
    }

    /** "Else answers how many are open then." */
    private static void beginAnswersHowManyAreOpen() {
        for (int open = 0; open < 4; open++) {
            CHECKS.due("begin() with " + open + " open", Stores.BUSY.apply(open).begin(), open + 1);
        }
    }

    private static void beginChangesNoNodeAndNoArrow() {
        for (int open = 0; open < 4; open++) {
            ArrowStore x = Stores.BUSY.apply(open);
            String before = Stores.picture(x);
            x.begin();
            CHECKS.duePicture("begin() within " + open, x, before);
        }
    }

    private static void beginAgainAfterOneIsClosed() {
        ArrowStore x = Stores.EMPTY.apply(4);
        x.begin();
        x.end();
        CHECKS.due("begin() after end()", x.begin(), 4);
        x.undo();
        CHECKS.due("begin() after undo()", x.begin(), 4);
        CHECKS.due("begin() of a fifth", x.begin(), FULL);
        x.crash();
        CHECKS.due("begin() after crash()", x.begin(), 1);
    }

    // ---- promise 9 ----

    /** "None is open: NONE." */
    private static void endNoneIsOpen() {
        CHECKS.refusedAt(0, "end()", Stores.EMPTY, x -> x.end(), NONE);
        CHECKS.refusedAt(0, "end()", Stores.BUSY, x -> x.end(), NONE);
        CHECKS.refusedAt(0, "end()", Stores.FULL, x -> x.end(), NONE);
    }

    /** "Else answers how many are open then." */
    private static void endAnswersHowManyAreOpen() {
        for (int open = 1; open <= 4; open++) {
            ArrowStore x = Stores.BUSY.apply(open);
            String before = Stores.picture(x);
            for (int left = open - 1; left >= 0; left--) {
                CHECKS.due("end() to " + left, x.end(), left);
            }
            CHECKS.due("end() with none left", x.end(), NONE);
            CHECKS.duePicture("all is kept", x, before);
        }
    }

    private static void endOfOneWithoutChanges() {
        for (int open = 0; open < 4; open++) {
            CHECKS.unchangedAt(open, "begin() and end()", Stores.BUSY, x -> {
                x.begin();
                return x.end();
            });
        }
    }

    private static void endOfAFullStore() {
        String all = Stores.picture(Stores.FULL.apply(0));
        ArrowStore x = new ArrowStore();
        x.begin();
        for (int n = 0; n < 12; n++) {
            x.node(n % 8, n - 6);
        }
        x.begin();
        for (int a = 0; a < 24; a++) {
            x.arrow(Checks.ends(a % 12, (a * 5 + 1) % 12), a % 4, 4 * a);
        }
        x.end();
        x.end();
        CHECKS.duePicture("a full store is kept", x, all);
        x.begin();
        for (int n = 0; n < 12; n++) {
            x.drop(n, true);
        }
        x.end();
        CHECKS.duePicture("an emptied store is kept", x, "");
    }

    // ---- promise 10 ----

    /** "None is open: NONE." */
    private static void undoNoneIsOpen() {
        CHECKS.refusedAt(0, "undo()", Stores.EMPTY, x -> x.undo(), NONE);
        CHECKS.refusedAt(0, "undo()", Stores.BUSY, x -> x.undo(), NONE);
        CHECKS.refusedAt(0, "undo()", Stores.FULL, x -> x.undo(), NONE);
    }

    /** "Undoes the innermost one, which is open no more. ... Else answers how many are open then." */
    private static void undoAnswersHowManyAreOpen() {
        for (int open = 1; open <= 4; open++) {
            ArrowStore x = Stores.BUSY.apply(open);
            for (int left = open - 1; left >= 0; left--) {
                CHECKS.due("undo() to " + left, x.undo(), left);
                String want = Stores.picture(Stores.BUSY.apply(left));
                CHECKS.duePicture("as before it", x, want);
            }
            CHECKS.due("undo() with none left", x.undo(), NONE);
        }
    }

    private static void undoOfOneWithoutChanges() {
        for (int open = 0; open < 4; open++) {
            CHECKS.unchangedAt(open, "begin() and undo()", Stores.BUSY, x -> {
                x.begin();
                return x.undo();
            });
        }
    }

    private static void undoLeavesWhatWasEndedBefore() {
        ArrowStore x = Stores.EMPTY.apply(3);
        x.begin();
        x.node(1, 1);
        x.end();
        x.begin();
        x.node(2, 2);
        CHECKS.due("undo() of the second within", x.undo(), 3);
        CHECKS.due("the first within stays", x.labels(0), 1);
        CHECKS.due("the second does not", x.labels(1), ArrowStore.BAD);
        CHECKS.due("undo() of the one around", x.undo(), 2);
        CHECKS.due("the first within goes with it", x.labels(0), ArrowStore.BAD);
    }

    // ---- promise 11 ----

    /** "Answers how many were open." */
    private static void crashAnswersHowManyWereOpen() {
        for (int open = 0; open <= 4; open++) {
            CHECKS.due("crash() of " + open, Stores.EMPTY.apply(open).crash(), open);
            CHECKS.due("crash() of " + open + ", busy", Stores.BUSY.apply(open).crash(), open);
            ArrowStore x = Stores.FULL.apply(open);
            x.begin();
            x.undo();
            CHECKS.due("crash() after undo()", x.crash(), open == 4 ? 3 : open);
        }
    }

    private static void crashWithNoneOpen() {
        CHECKS.unchangedAt(0, "crash()", Stores.EMPTY, x -> x.crash());
        CHECKS.unchangedAt(0, "crash()", Stores.BUSY, x -> x.crash());
        CHECKS.unchangedAt(0, "crash()", Stores.FULL, x -> x.crash());
    }

    private static void nothingOfAnUndoneOneComesBack() {
        for (int open = 1; open <= 4; open++) {
            ArrowStore x = Stores.BUSY.apply(open);
            String before = Stores.picture(Stores.BUSY.apply(0));
            x.crash();
            for (int depth = 1; depth <= 4; depth++) {
                x.begin();
                CHECKS.duePicture("begin() after crash()", x, before);
            }
            for (int depth = 1; depth <= 4; depth++) {
                x.end();
            }
            CHECKS.duePicture("end() after crash()", x, before);
        }
    }
}
