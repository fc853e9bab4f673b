import java.lang.reflect.Constructor;
import java.lang.reflect.Field;
import java.lang.reflect.Method;
import java.lang.reflect.Modifier;
import java.util.Arrays;
import java.util.TreeSet;

/** The class shows the face of the document and nothing else. */
final class FaceTest {
    private static final String[] METHODS = {
        "node II", "main III", "valve II", "turn I", "ofMain II", "wrong I", "mend I",
        "draw IIII", "lift IIIII", "bridge IIIII", "tower IIII", "house IIII", "leak IIZ", "clear I", "ofNode II",
        "light IZ", "found I", "work ", "near I", "press II", "flow I", "step I", "told I",
        "row II", "put III", "none II", "read II", "say I", "wipe ", "fault ", "order I", "does ", "why I",
        "cut I", "dry I", "seek III", "block I", "rest ", "plan III", "best II", "fails I",
        "term II", "meter IZ", "pay I"
    };
    private static final String[] CONSTANTS = {
        "NONE -6", "UNKNOWN -1", "OUTSIDE -2", "STATE -3", "FULL -4", "NO -5", "UNREAD -7", "STUCK -8"
    };

    public static void main(String[] args) throws IllegalAccessException {
        TreeSet<String> methods = new TreeSet<>();
        for (Method m : PipeWorks.class.getDeclaredMethods()) {
            if (!Modifier.isPrivate(m.getModifiers())) {
                StringBuilder text = new StringBuilder(m.getName()).append(' ');
                for (Class<?> c : m.getParameterTypes()) {
                    text.append(c == int.class ? 'I' : c == boolean.class ? 'Z' : '?');
                }
                methods.add(text.toString());
                Checks.due(text + " is a public int method of an object",
                        m.getReturnType() == int.class && m.getModifiers() == Modifier.PUBLIC ? 1 : 0, 1);
            }
        }
        Checks.due("the methods are those of the document: " + methods,
                methods.equals(new TreeSet<>(Arrays.asList(METHODS))) ? 1 : 0, 1);
        TreeSet<String> constants = new TreeSet<>();
        for (Field f : PipeWorks.class.getDeclaredFields()) {
            if (!Modifier.isPrivate(f.getModifiers())) {
                Checks.due(f.getName() + " is a public constant", f.getModifiers(),
                        Modifier.PUBLIC | Modifier.STATIC | Modifier.FINAL);
                constants.add(f.getName() + " " + f.getInt(null));
            }
        }
        Checks.due("the constants are those of the document: " + constants,
                constants.equals(new TreeSet<>(Arrays.asList(CONSTANTS))) ? 1 : 0, 1);
        Constructor<?>[] made = PipeWorks.class.getDeclaredConstructors();
        Checks.due("constructors", made.length, 1);
        Checks.due("the constructor's parameters", made[0].getParameterCount(), 0);
        Checks.due("the class", PipeWorks.class.getModifiers(), Modifier.PUBLIC | Modifier.FINAL);
        Checks.end();
    }
}
