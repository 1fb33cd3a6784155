/** Counts the answers that are not the ones that are due, and ends the program accordingly. */
final class Checks {
    private final String title;
    private int made = 0;
    private int wrong = 0;

    Checks(String title) {
        this.title = title;
    }

    void due(String call, int got, int want) {
        made++;
        if (got != want) {
            wrong++;
            System.out.println(title + ": " + call + " answered " + got + ", due is " + want);
        }
    }

    /** Makes a store with so many nodes, each without labels and with value 0. */
    static ArrowStore storeWithNodes(int count) {
        ArrowStore x = new ArrowStore();
        for (int n = 0; n < count; n++) {
            x.node(0, 0);
        }
        return x;
    }

    static int ends(int from, int to) {
        return 12 * from + to;
    }

    void finish() {
        System.out.println(title + ": " + made + " answers, " + wrong + " not as due");
        if (wrong != 0) {
            System.exit(1);
        }
    }
}
