import java.io.IOException;
import java.nio.file.Files;
import java.nio.file.Path;
import java.util.regex.Matcher;
import java.util.regex.Pattern;

/** What of LANGUAGE.md can be seen from the text of the program alone. */
final class LanguageTest {
    private static final String[] NEVER = {
        "\\bthrow\\b", "\\bcatch\\b", "\\bfinally\\b", "\\bassert\\b", "\\bsynchronized\\b", "->", "::", "@\\w",
        "\\bpackage\\b", "\\bMath\\.\\w+Exact\\b", "\\bSystem\\.(?!arraycopy)", "\\bprotected\\b", "\"",
        "\\bequals\\b|\\bhashCode\\b|\\btoString\\b", "static \\w+(\\[\\])* \\w+( =|;)", "static \\{"
    };

    public static void main(String[] args) throws IOException {
        String text = Files.readString(Path.of("src/main/java/PipeWorks.java"));
        String code = text.replaceAll("(?s)/\\*.*?\\*/", "").replaceAll("//[^\n]*", "");
        for (String never : NEVER) {
            Matcher m = Pattern.compile(never).matcher(code);
            Checks.due("never " + never, m.find() ? 1 : 0, 0);
        }
        Checks.due("imports", code.split("\\bimport\\b").length - 1, 1);
        Checks.due("classes", code.split("\\bclass\\b").length - 1, 12);
        Checks.due("signs are 1 to 127", text.chars().filter(c -> c < 1 || c > 127).count(), 0);
        Checks.end();
    }
}
