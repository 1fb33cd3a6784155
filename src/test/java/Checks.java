import java.util.function.Consumer;
import java.util.function.IntFunction;
import java.util.function.ToIntFunction;

/** Counts the answers that are not the ones that are due, and ends the program accordingly. */
final class Checks {
    private final String title;
    private int made = 0;
    private int wrong = 0;

    Checks(String title) {
        this.title = title;
    }

    void due(String call, int got, int want) {
        made++;
        if (got != want) {
            wrong++;
            System.out.println(title + ": " + call + " answered " + got + ", due is " + want);
        }
    }

    /** Holds all nodes and arrows against a picture that was made before, or of another store. */
    void duePicture(String call, ArrowStore x, String want) {
        made++;
        String got = Stores.picture(x);
        if (!got.equals(want)) {
            wrong++;
            System.out.println(title + ": after " + call + " there is" + got + "\n  due is" + want);
        }
    }

    /** The call is refused with this answer and changes nothing, however many are open. */
    void refused(String name, IntFunction<ArrowStore> make, ToIntFunction<ArrowStore> call, int want) {
        for (int open = 0; open <= 4; open++) {
            refusedAt(open, name, make, call, want);
        }
    }

    void refusedAt(int open, String name, IntFunction<ArrowStore> make,
            ToIntFunction<ArrowStore> call, int want) {
        String where = name + " with " + open + " open";
        due(where, call.applyAsInt(make.apply(open)), want);
        unchangedAt(open, where, make, call);
    }

    /** The call changes nothing, however many are open. */
    void unchanged(String name, IntFunction<ArrowStore> make, ToIntFunction<ArrowStore> call) {
        for (int open = 0; open <= 4; open++) {
            unchangedAt(open, name + " with " + open + " open", make, call);
        }
    }

    /** Also the pictures around the innermost one are looked at, each by undoing and ending. */
    void unchangedAt(int open, String where, IntFunction<ArrowStore> make,
            ToIntFunction<ArrowStore> call) {
        for (int times = 0; times <= open; times++) {
            int often = times;
            sameAfter(where + ", " + often + " undo()", make.apply(open), make.apply(open), call,
                x -> undoTimes(x, often));
            sameAfter(where + ", " + often + " end() and crash()", make.apply(open),
                make.apply(open), call, x -> endTimesAndCrash(x, often));
        }
        ArrowStore x = make.apply(open);
        call.applyAsInt(x);
        due(where + ": how many are open", x.crash(), open);
    }

    private void sameAfter(String where, ArrowStore called, ArrowStore uncalled,
            ToIntFunction<ArrowStore> call, Consumer<ArrowStore> wayOut) {
        call.applyAsInt(called);
        wayOut.accept(called);
        wayOut.accept(uncalled);
        duePicture(where, called, Stores.picture(uncalled));
    }

    private static void undoTimes(ArrowStore x, int times) {
        for (int k = 0; k < times; k++) {
            x.undo();
        }
    }

    private static void endTimesAndCrash(ArrowStore x, int times) {
        for (int k = 0; k < times; k++) {
            x.end();
        }
        x.crash();
    }

    /** Makes a store with so many nodes, each without labels and with value 0. */
    static ArrowStore storeWithNodes(int count) {
        ArrowStore x = new ArrowStore();
        for (int n = 0; n < count; n++) {
            x.node(0, 0);
        }
        return x;
    }

    static int ends(int from, int to) {
        return 12 * from + to;
    }

    static int code(int way, int n, int type) {
        return 16 * (12 * way + n) + type;
    }

    void finish() {
        System.out.println(title + ": " + made + " answers, " + wrong + " not as due");
        if (wrong != 0) {
            System.exit(1);
        }
    }
}
