import java.io.IOException;
import java.lang.reflect.Field;
import java.lang.reflect.Method;
import java.lang.reflect.Modifier;
import java.nio.file.Files;
import java.nio.file.Path;
import java.util.Arrays;
import java.util.Set;
import java.util.TreeSet;
import java.util.regex.Matcher;
import java.util.regex.Pattern;

/** What of LANGUAGE.md can be seen from the text and the members of the program alone. */
final class LanguageTest {
    private static final String[] NEVER = {
        "\\bthrow\\b", "\\bcatch\\b", "\\bfinally\\b", "\\bassert\\b", "\\bsynchronized\\b", "->", "::", "@\\w",
        "\\bpackage\\b", "\\bMath\\.\\w+Exact\\b", "\\bSystem\\.(?!arraycopy)", "\\bprotected\\b", "\"",
        "\\bequals\\b|\\bhashCode\\b|\\btoString\\b", "static \\w+(\\[\\])* \\w+( =|;)", "static \\{"
    };

    public static void main(String[] args) throws IOException {
        String text = Files.readString(Path.of("src/main/java/PipeWorks.java"));
        String code = text.replaceAll("(?s)/\\*.*?\\*/", "").replaceAll("//[^\n]*", "");
        for (String never : NEVER) {
            Matcher m = Pattern.compile(never).matcher(code);
            Checks.due("never " + never, m.find() ? 1 : 0, 0);
        }
        Checks.due("imports", code.split("\\bimport\\b").length - 1, 1);
        Checks.due("classes", code.split("\\bclass\\b").length - 1, 12);
        Checks.due("signs are 1 to 127", text.chars().filter(c -> c < 1 || c > 127).count(), 0);
        Set<String> face = new TreeSet<>();
        for (Method m : PipeWorks.class.getMethods()) {
            face.add(m.getName());
        }
        members(PipeWorks.class, face);
        for (Class<?> inside : PipeWorks.class.getDeclaredClasses()) {
            int kind = inside.getModifiers() & (Modifier.STATIC | Modifier.PUBLIC | Modifier.PROTECTED);
            Checks.due(inside.getSimpleName() + " is static and not to be seen", kind, Modifier.STATIC);
            members(inside, face);
        }
        Checks.end();
    }

    private static void members(Class<?> one, Set<String> face) {
        long fields = Arrays.stream(one.getDeclaredFields()).filter(f -> !Modifier.isStatic(f.getModifiers())).count();
        Checks.due(one.getSimpleName() + " has some twenty fields at most: " + fields, fields <= 20 ? 1 : 0, 1);
        for (Field f : one.getDeclaredFields()) {
            boolean isFree = !Modifier.isStatic(f.getModifiers()) || Modifier.isFinal(f.getModifiers());
            Checks.due(f.getName() + " is final if it is static", isFree ? 1 : 0, 1);
        }
        for (Method m : one.getDeclaredMethods()) {
            Checks.due(m.getName() + " takes seven parameters at most", m.getParameterCount() <= 7 ? 1 : 0, 1);
            boolean isOwn = one == PipeWorks.class && Modifier.isPublic(m.getModifiers());
            Checks.due(m.getName() + " bears no name of the face", !isOwn && face.contains(m.getName()) ? 1 : 0, 0);
        }
    }
}
