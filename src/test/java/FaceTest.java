import java.lang.reflect.Constructor;
import java.lang.reflect.Field;
import java.lang.reflect.Method;
import java.lang.reflect.Modifier;
import java.util.Arrays;
import java.util.TreeSet;

/** The public face: the members of the document, and no other that can be seen from outside. */
public final class FaceTest {
    private static final Checks CHECKS = new Checks("FaceTest");

    private static final String[] FACE = {
        "node(int, int)", "arrow(int, int, int)", "setNode(int, int, int)", "setWeight(int, int)",
        "cut(int)", "drop(int, boolean)", "begin()", "end()", "undo()", "crash()", "labels(int)",
        "value(int)", "look(int, int)", "degree(int, int, int)", "arrowAt(int, int)",
        "find(int, int)", "chains(int, int, int)", "distance(int, int)", "cheapest(int, int)",
        "rounds(int)", "faults()", "digest()",
    };

    public static void main(String[] args) {
        constants();
        methods();
        otherMembers();
        CHECKS.finish();
    }

    private static void constants() {
        CHECKS.due("BAD", ArrowStore.BAD, -1);
        CHECKS.due("NONE", ArrowStore.NONE, -2);
        CHECKS.due("FULL", ArrowStore.FULL, -3);
        CHECKS.due("HELD", ArrowStore.HELD, -4);
    }

    private static void methods() {
        TreeSet<String> want = new TreeSet<>(Arrays.asList(FACE));
        TreeSet<String> got = new TreeSet<>();
        for (Method m : ArrowStore.class.getDeclaredMethods()) {
            if (!Modifier.isPrivate(m.getModifiers())) {
                String text = Arrays.toString(m.getParameterTypes());
                got.add(m.getName() + "(" + text.substring(1, text.length() - 1) + ")");
                CHECKS.due(m + " is public", m.getModifiers(), Modifier.PUBLIC);
                CHECKS.due(m + " answers an int", m.getReturnType() == int.class ? 1 : 0, 1);
            }
        }
        CHECKS.due("methods " + got + " are " + want, got.equals(want) ? 1 : 0, 1);
    }

    private static void otherMembers() {
        int fields = 0;
        for (Field f : ArrowStore.class.getDeclaredFields()) {
            fields += Modifier.isPrivate(f.getModifiers()) ? 0 : 1;
        }
        CHECKS.due("fields that are not private", fields, 4);
        Constructor<?>[] constructors = ArrowStore.class.getDeclaredConstructors();
        CHECKS.due("constructors", constructors.length, 1);
        CHECKS.due("its parameters", constructors[0].getParameterCount(), 0);
        CHECKS.due("it is public", constructors[0].getModifiers(), Modifier.PUBLIC);
        CHECKS.due("the class is public and final", ArrowStore.class.getModifiers(),
            Modifier.PUBLIC | Modifier.FINAL);
        CHECKS.due("nested classes", ArrowStore.class.getDeclaredClasses().length, 0);
    }
}
