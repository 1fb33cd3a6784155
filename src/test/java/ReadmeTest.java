import java.io.IOException;
import java.nio.file.Files;
import java.nio.file.Path;
import java.util.ArrayList;
import java.util.List;
import java.util.regex.Matcher;
import java.util.regex.Pattern;

/** The example of README.md: its calls have the answers that are due, and README.md tells them. */
public final class ReadmeTest {
    private static final Checks CHECKS = new Checks("ReadmeTest");
    private static final int BAD = -1;
    private static final int NONE = -2;
    private static final int FULL = -3;
    private static final int HELD = -4;

    private static final Pattern CALL_AND_ANSWER = Pattern.compile("(x\\..*;) +// (\\w+).*");

    /** The calls that were made, each with its answer as README.md has to tell it. */
    private static final List<String> MADE = new ArrayList<>();

    public static void main(String[] args) throws IOException {
        ArrowStore x = new ArrowStore();
        nodesAndArrows(x);
        questionsAboutOne(x);
        questionsAboutAll(x);
        transactions(x);
        refusedCalls(x);
        readmeTellsTheSame();
        CHECKS.finish();
    }

    private static void nodesAndArrows(ArrowStore x) {
        shown("x.node(1, 100);", x.node(1, 100), 0);
        shown("x.node(6, 200);", x.node(6, 200), 1);
        shown("x.node(4, 300);", x.node(4, 300), 2);
        shown("x.arrow(12 * 0 + 1, 2, 35);", x.arrow(12 * 0 + 1, 2, 35), 0);
        shown("x.arrow(12 * 1 + 2, 2, 10);", x.arrow(12 * 1 + 2, 2, 10), 1);
        shown("x.arrow(12 * 0 + 2, 3, 60);", x.arrow(12 * 0 + 2, 3, 60), 2);
        shown("x.arrow(12 * 2 + 2, 0, 5);", x.arrow(12 * 2 + 2, 0, 5), 3);
    }

    private static void questionsAboutOne(ArrowStore x) {
        shown("x.labels(1);", x.labels(1), 6);
        shown("x.value(1);", x.value(1), 200);
        shown("x.look(2, 0);", x.look(2, 0), 0);
        shown("x.look(2, 1);", x.look(2, 1), 2);
        shown("x.look(2, 2);", x.look(2, 2), 3);
        shown("x.look(2, 3);", x.look(2, 3), 60);
        shown("x.degree(2, 4, 0);", x.degree(2, 4, 0), 1);
        shown("x.degree(2, 4, 1);", x.degree(2, 4, 1), 3);
        shown("x.degree(2, 4, 2);", x.degree(2, 4, 2), 3);
        shown("x.arrowAt(16 * (12 * 1 + 2) + 4, 0);", x.arrowAt(16 * (12 * 1 + 2) + 4, 0), 1);
        shown("x.arrowAt(16 * (12 * 1 + 2) + 4, 2);", x.arrowAt(16 * (12 * 1 + 2) + 4, 2), 3);
    }

    private static void questionsAboutAll(ArrowStore x) {
        shown("x.find(2, 200);", x.find(2, 200), 1);
        shown("x.chains(2, 2, 4);", x.chains(2, 2, 4), 1);
        shown("x.distance(12 * 0 + 2, 4);", x.distance(12 * 0 + 2, 4), 1);
        shown("x.distance(12 * 0 + 2, 2);", x.distance(12 * 0 + 2, 2), 2);
        shown("x.cheapest(12 * 0 + 2, 4);", x.cheapest(12 * 0 + 2, 4), 45);
        shown("x.rounds(4);", x.rounds(4), 3);
        shown("x.faults();", x.faults(), 0);
        shown("x.digest();", x.digest(), 22804);
    }

    private static void transactions(ArrowStore x) {
        shown("x.begin();", x.begin(), 1);
        shown("x.setWeight(1, 30);", x.setWeight(1, 30), 10);
        shown("x.begin();", x.begin(), 2);
        shown("x.cut(2);", x.cut(2), 3);
        shown("x.cheapest(12 * 0 + 2, 4);", x.cheapest(12 * 0 + 2, 4), 65);
        shown("x.undo();", x.undo(), 1);
        shown("x.cheapest(12 * 0 + 2, 4);", x.cheapest(12 * 0 + 2, 4), 60);
        shown("x.end();", x.end(), 0);
        shown("x.begin();", x.begin(), 1);
        shown("x.setNode(0, 0, 7);", x.setNode(0, 0, 7), 1);
        shown("x.drop(2, true);", x.drop(2, true), 3);
        shown("x.crash();", x.crash(), 1);
        shown("x.value(0);", x.value(0), 100);
        shown("x.look(1, 3);", x.look(1, 3), 30);
    }

    private static void refusedCalls(ArrowStore x) {
        shown("x.node(8, 0);", x.node(8, 0), BAD);
        shown("x.arrow(12 * 0 + 9, 2, 35);", x.arrow(12 * 0 + 9, 2, 35), BAD);
        shown("x.drop(2, false);", x.drop(2, false), HELD);
        shown("x.distance(12 * 2 + 0, 4);", x.distance(12 * 2 + 0, 4), NONE);
        shown("x.end();", x.end(), NONE);
        shown("x.begin();", x.begin(), 1);
        shown("x.begin();", x.begin(), 2);
        shown("x.begin();", x.begin(), 3);
        shown("x.begin();", x.begin(), 4);
        shown("x.begin();", x.begin(), FULL);
    }

    private static void shown(String call, int got, int want) {
        CHECKS.due(call, got, want);
        MADE.add(call + " // " + told(want));
    }

    private static String told(int answer) {
        switch (answer) {
            case BAD:
                return "BAD";
            case NONE:
                return "NONE";
            case FULL:
                return "FULL";
            case HELD:
                return "HELD";
            default:
                return "" + answer;
        }
    }

    /** So that the example can't change without this test. */
    private static void readmeTellsTheSame() throws IOException {
        List<String> shown = callsOfReadme();
        CHECKS.due("the number of calls that README.md shows", shown.size(), MADE.size());
        for (int k = 0; k < MADE.size() && k < shown.size(); k++) {
            String row = "is \"" + shown.get(k) + "\" of README.md \"" + MADE.get(k) + "\"";
            CHECKS.due(row, shown.get(k).equals(MADE.get(k)) ? 1 : 0, 1);
        }
    }

    /** A call without an answer is taken as it stands, and so equals none that was made here. */
    private static List<String> callsOfReadme() throws IOException {
        List<String> calls = new ArrayList<>();
        for (String line : Files.readAllLines(Path.of("README.md"))) {
            Matcher row = CALL_AND_ANSWER.matcher(line);
            if (row.matches()) {
                calls.add(row.group(1) + " // " + row.group(2));
            } else if (line.startsWith("x.")) {
                calls.add(line);
            }
        }
        return calls;
    }
}
