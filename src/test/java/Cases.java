import java.io.IOException;
import java.nio.file.Files;
import java.nio.file.Path;
import java.util.ArrayList;
import java.util.HashMap;
import java.util.List;
import java.util.Map;
import java.util.TreeSet;

/** The files under src/test/cases, taken apart; README.md says their form. */
final class Cases {
    /** A title ("9 draw: ..") and lines: a call, and behind = the answer that is due. */
    record Case(String title, List<String> lines) {
        int promise() {
            return Integer.parseInt(title.split(" ")[0]);
        }
    }

    final List<Case> cases = new ArrayList<>();
    final List<String> quotes = new ArrayList<>();
    private final Map<String, List<String>> scripts = new HashMap<>();
    private List<String> lines = new ArrayList<>();

    static Cases under(String directory) throws IOException {
        Cases all = new Cases();
        TreeSet<Path> files = new TreeSet<>();
        try (var found = Files.newDirectoryStream(Path.of(directory), "*.txt")) {
            found.forEach(files::add);
        }
        for (Path file : files) {
            all.scripts.clear();
            for (String line : Files.readAllLines(file)) {
                all.take(line.replaceAll("(^| +)//.*", "").trim());
            }
        }
        return all;
    }

    private void take(String line) {
        if (line.isEmpty()) {
            return;
        }
        if (line.startsWith("> ")) {
            quotes.add(line.substring(2));
        } else if (line.startsWith("[")) {
            int end = line.indexOf(']');
            lines = new ArrayList<>();
            cases.add(new Case(line.substring(1, end) + ":" + line.substring(end + 1), lines));
        } else if (line.startsWith("{")) {
            lines = new ArrayList<>();
            scripts.put(line, lines);
        } else if (line.startsWith("use ")) {
            lines.addAll(scripts.get("{" + line.substring(4) + "}"));
        } else {
            lines.add(line);
        }
    }
}
