import java.lang.reflect.Constructor;
import java.lang.reflect.Field;
import java.lang.reflect.Method;
import java.lang.reflect.Modifier;
import java.util.Arrays;
import java.util.Set;
import java.util.TreeSet;

/** The class has the document's face, and no member beside it that others can see. */
public final class FaceTest {
    private static final String[] FACE = {
        "CycleRows()", "int NONE",
        "int key(int)", "int edge(int, int, int, int)", "int remove(int, int)", "boolean cut(int)",
        "int run(int)", "int size(int)", "int ring(int, int, int)", "int only(int)",
        "int newest(int)", "int strong(int)", "int state(int)", "int least(int)", "int ask(int)",
        "int met(int)",
    };

    public static void main(String[] args) {
        Due due = new Due("FaceTest");
        Set<String> seen = new TreeSet<>();
        for (Constructor<?> c : CycleRows.class.getDeclaredConstructors()) {
            note(due, seen, c.getModifiers(), "CycleRows" + list(c.getParameterTypes()));
        }
        for (Method m : CycleRows.class.getDeclaredMethods()) {
            note(due, seen, m.getModifiers(),
                    m.getReturnType() + " " + m.getName() + list(m.getParameterTypes()));
        }
        for (Field f : CycleRows.class.getDeclaredFields()) {
            note(due, seen, f.getModifiers(), f.getType() + " " + f.getName());
        }
        Set<String> want = new TreeSet<>(Arrays.asList(FACE));
        if (!seen.equals(want)) {
            due.tell("the face is " + seen + ", due is " + want);
        }
        due.is("final class", Modifier.isFinal(CycleRows.class.getModifiers()), true);
        due.is("NONE", CycleRows.NONE, -1);
        due.end();
    }

    private static void note(Due due, Set<String> seen, int modifiers, String member) {
        if (Modifier.isPublic(modifiers)) {
            seen.add(member);
        } else {
            due.is(member + " is private", Modifier.isPrivate(modifiers), true);
        }
    }

    private static String list(Class<?>[] types) {
        String text = Arrays.toString(types);
        return "(" + text.substring(1, text.length() - 1) + ")";
    }
}
