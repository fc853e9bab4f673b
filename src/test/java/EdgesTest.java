import java.io.IOException;
import java.nio.file.Files;
import java.nio.file.Path;
import java.util.List;
import java.util.Map;

/** Each boundary case that the document names, one by one; and refused calls change nothing. */
final class EdgesTest {
    private static final int PROMISES = 45, MOST_CALLS = 512;
    private static final Map<String, Integer> NAMES = Map.of(
            "NONE", PipeWorks.NONE, "UNKNOWN", PipeWorks.UNKNOWN, "OUTSIDE", PipeWorks.OUTSIDE,
            "STATE", PipeWorks.STATE, "FULL", PipeWorks.FULL, "NO", PipeWorks.NO);

    public static void main(String[] args) throws IOException {
        Cases all = Cases.under("src/test/cases");
        int[] casesOf = new int[PROMISES + 1];
        int refused = 0;
        for (Cases.Case one : all.cases) {
            casesOf[one.promise()]++;
            refused += answers(one);
        }
        for (int promise = 1; promise <= PROMISES; promise++) {
            Checks.due("promise " + promise + " has cases", casesOf[promise] > 0 ? 1 : 0, 1);
        }
        String document = plain(Files.readString(Path.of("../shared/DOC.md")));
        for (String quote : all.quotes) {
            Checks.due("the document says: " + quote, document.contains(plain(quote)) ? 1 : 0, 1);
        }
        System.out.println(all.cases.size() + " cases, " + refused + " refused calls that changed nothing");
        Checks.end();
    }

    private static String plain(String text) {
        return text.replaceAll("\\s+", " ");
    }

    /** Checks each answer of a case; how many calls were refused. */
    private static int answers(Cases.Case one) {
        Calls calls = new Calls();
        int refused = 0, checks = 0;
        for (int i = 0; i < one.lines().size(); i++) {
            String line = one.lines().get(i);
            int got = calls.run(callOf(line));
            if (line.contains(" = ")) {
                checks++;
                Checks.due(one.title() + ": " + callOf(line), got, wanted(line));
            }
            if (isRefusal(line, got)) {
                refused++;
                Snapshot.same(one.title() + ": " + line, one.lines().subList(0, i), callOf(line));
            }
        }
        Checks.due(one.title() + ": checks something", checks > 0 ? 1 : 0, 1);
        Checks.due(one.title() + ": within the calls of an object", calls.count <= MOST_CALLS ? 1 : 0, 1);
        return refused;
    }

    static String callOf(String line) {
        return line.contains(" = ") ? line.substring(0, line.lastIndexOf(" = ")).trim() : line;
    }

    private static int wanted(String line) {
        String want = line.substring(line.lastIndexOf(" = ") + 3).trim();
        return NAMES.containsKey(want) ? NAMES.get(want) : Integer.parseInt(want);
    }

    /** A net that does not settle is worked all the same. */
    private static boolean isRefusal(String line, int got) {
        String name = line.split(" ")[0];
        return !List.of("work", "text").contains(name) && !Calls.refusal(name, got).isEmpty();
    }
}
