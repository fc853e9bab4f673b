import java.io.IOException;
import java.nio.file.Files;
import java.nio.file.Path;
import java.util.ArrayList;
import java.util.Arrays;
import java.util.HashMap;
import java.util.LinkedHashMap;
import java.util.LinkedHashSet;
import java.util.List;
import java.util.Map;
import java.util.Set;
import java.util.TreeSet;
import java.util.regex.MatchResult;
import java.util.regex.Matcher;
import java.util.regex.Pattern;

/** What README.md says of the class and of its tests is so: by the document, and by what the class answers. */
final class ReadmeTest {
    private static final Pattern EXAMPLE = Pattern.compile("(?:int (\\w+) = )?works\\.(\\w+)\\((.*)\\); +// (-?\\w+)(:.*)?");
    private static final Pattern FACE = Pattern.compile("public int (\\w+\\(.*\\));");
    private static final Pattern PROMISE = Pattern.compile("## Promise (\\d+): (\\w+)\\s+`.*?`: (.*)");
    private static final Pattern REFUSAL = Pattern.compile("\\b(UNKNOWN|OUTSIDE|STATE|FULL|NO)\\b");
    private static final Pattern RANGE = Pattern.compile("(\\w+) (-?\\d+)\\.\\.(-?\\d+)");
    private static final Pattern CONSTANT = Pattern.compile("`([A-Z]+)`(?: \\| | \\()(-\\d+)");
    private static final Pattern NAME = Pattern.compile("`((?:src|\\.ci|\\.\\.)/[^` ]*|[A-Z]\\w*[a-z]\\w*)`");
    private static final int NO_SUCH = 99;

    /** On an object behind this each call of GOOD is answered. */
    private static final List<String> PAST = List.of("node 0 0", "node 0 0", "node 0 0", "node 0 0", "main 0 1 100",
            "main 1 2 100", "valve 0 0", "house 2 900 0 5", "light 2 true", "leak 3 9 true", "row 0 4", "tell m<9:Oa",
            "order 0", "tell m<9:Oa", "block 5");
    private static final List<String> GOOD = List.of("node 5 1", "main 0 2 7", "valve 1 1", "turn 0", "ofMain 0 0",
            "wrong 0", "mend 0", "draw 1 5 0 1440", "lift 1 5 1 0 1440", "bridge 1 5 9 9 9", "tower 1 5 9 0",
            "house 1 5 5 5", "leak 1 5 true", "clear 2", "ofNode 0 0", "light 2 true", "found 3", "work", "near 5",
            "press 0 0", "flow 0", "step 1", "told 0", "row 1 5", "put 0 0 5", "none 0 0", "read 0 0", "say 40", "wipe",
            "fault", "order 5", "does", "why 0", "cut 1", "dry 1", "seek 5 0 0", "block 5", "rest", "plan 0 5 5",
            "best 50 0", "fails 50", "term 0 5", "meter 0 true", "pay 0");
    /** What told() counts of those that may be full. */
    private static final Map<String, Integer> COUNTS = Map.of("node", 1, "main", 2, "valve", 3, "say", 4, "order", 5,
            "block", 10);

    /** A row of README's tables of calls. */
    private record Row(String name, List<String> numbers, String ranges, String refused) {
        String form() {
            return name + "(" + String.join(", ", numbers) + ")";
        }

        /** The call of GOOD, with one number put in place of its own. */
        String callWith(String number, int put) {
            String[] words = good(name).split(" ");
            words[numbers.indexOf(number) + 1] = String.valueOf(put);
            return String.join(" ", words);
        }
    }

    public static void main(String[] args) throws IOException, ReflectiveOperationException {
        String readme = Files.readString(Path.of("README.md"));
        String document = Files.readString(Path.of("../shared/DOC.md"));
        example(readme);
        constants(readme);
        names(readme);
        Map<String, Row> rows = rowsOf(readme);
        formsAreTheFace(rows, document);
        Map<String, Set<String>> promised = promisedRefusals(document), met = metRefusals();
        for (Row row : rows.values()) {
            refusals(row, promised.get(row.name), met.getOrDefault(row.name, Set.of()));
            ranges(row);
            pairs(row);
            unknowns(row);
            full(row);
        }
        Checks.end();
    }

    private static void so(String what, boolean is) {
        Checks.due("README.md: " + what, is ? 1 : 0, 1);
    }

    private static List<MatchResult> all(Pattern pattern, String text) {
        return pattern.matcher(text).results().toList();
    }

    private static String good(String name) {
        return GOOD.stream().filter(call -> call.split(" ")[0].equals(name)).findFirst().orElseThrow();
    }

    private static String refusalOf(Calls calls, String call) {
        return Calls.refusal(call.split(" ")[0], calls.run(call));
    }

    private static String refusalOf(String call) {
        Calls calls = new Calls();
        PAST.forEach(calls::run);
        return refusalOf(calls, call);
    }

    private static void example(String readme) throws ReflectiveOperationException {
        String[] lines = readme.split("```java\n")[1].split("\n```")[0].split("\n");
        so("the example makes an object", lines[0].equals("PipeWorks works = new PipeWorks();"));
        Calls calls = new Calls();
        Map<String, String> values = new HashMap<>();
        for (int i = 1; i < lines.length; i++) {
            Matcher line = EXAMPLE.matcher(lines[i]);
            so("this line tells its answer: " + lines[i], line.matches());
            StringBuilder call = new StringBuilder(line.group(2));
            for (String number : line.group(3).split(", ")) {
                call.append(' ').append(values.getOrDefault(number, number));
            }
            int got = calls.run(call.toString());
            Checks.due("README.md: " + lines[i], got, valueOf(line.group(4)));
            values.put(line.group(1), String.valueOf(got));
        }
    }

    private static int valueOf(String number) throws ReflectiveOperationException {
        return number.matches("[A-Z]+") ? PipeWorks.class.getField(number).getInt(null) : Integer.parseInt(number);
    }

    private static void constants(String readme) throws ReflectiveOperationException {
        Set<String> told = new TreeSet<>();
        for (MatchResult constant : all(CONSTANT, readme)) {
            told.add(constant.group(1));
            Checks.due("README.md: " + constant.group(), Integer.parseInt(constant.group(2)), valueOf(constant.group(1)));
        }
        Checks.due("README.md tells constants", told.size(), PipeWorks.class.getFields().length);
    }

    /** Files and classes that the page names are there, and it names each test. */
    private static void names(String readme) throws IOException {
        Set<String> classes = new TreeSet<>(List.of("PipeWorks"));
        for (Class<?> inside : PipeWorks.class.getDeclaredClasses()) {
            classes.add(inside.getSimpleName());
            so("names " + inside.getSimpleName(), readme.contains("`" + inside.getSimpleName() + "`"));
        }
        try (var files = Files.newDirectoryStream(Path.of("src/test/java"))) {
            for (Path file : files) {
                String name = file.getFileName().toString().replace(".java", "");
                classes.add(name);
                so("names " + name, !name.endsWith("Test") || readme.contains("`" + name + "`"));
            }
        }
        for (MatchResult name : all(NAME, readme)) {
            String told = name.group(1);
            so("there is " + told, told.contains("/") ? Files.exists(Path.of(told)) : classes.contains(told));
        }
    }

    private static Map<String, Row> rowsOf(String readme) {
        Map<String, Row> rows = new LinkedHashMap<>();
        for (String line : readme.split("\n")) {
            String[] cells = line.split("\\|", -1);
            if (cells.length == 6 && cells[1].matches(" `\\w+\\(.*\\)` ")) {
                String[] parts = cells[1].trim().replace("`", "").replace(")", "").split("\\(", -1);
                List<String> numbers = parts[1].isEmpty() ? List.of() : Arrays.asList(parts[1].split(", "));
                so("one row for " + parts[0],
                        rows.put(parts[0], new Row(parts[0], numbers, cells[3], cells[4])) == null);
                so("says what it answers: " + parts[0], !cells[2].isBlank());
            }
        }
        return rows;
    }

    private static void formsAreTheFace(Map<String, Row> rows, String document) {
        List<String> want = new ArrayList<>(), got = new ArrayList<>();
        for (MatchResult call : all(FACE, document)) {
            want.add(call.group(1).replaceAll("(int|boolean) ", ""));
        }
        rows.values().forEach(row -> got.add(row.form()));
        so("the calls are those of the document, in its order: " + got, got.equals(want));
    }

    private static Set<String> refusalsIn(String text) {
        Set<String> found = new LinkedHashSet<>();
        all(REFUSAL, text).forEach(word -> found.add(word.group()));
        return found;
    }

    /** Promise 9 says its refusals for those up to 14, too. */
    private static Map<String, Set<String>> promisedRefusals(String document) {
        Map<String, Set<String>> promised = new HashMap<>();
        for (MatchResult promise : all(PROMISE, document)) {
            int number = Integer.parseInt(promise.group(1));
            promised.put(promise.group(2), number > 9 && number <= 14 ? promised.get("draw") : refusalsIn(promise.group(3)));
        }
        return promised;
    }

    /** Refusals that the cases under src/test/cases met with. */
    private static Map<String, Set<String>> metRefusals() throws IOException {
        Map<String, Set<String>> met = new HashMap<>();
        for (Cases.Case one : Cases.under("src/test/cases").cases) {
            Calls calls = new Calls();
            one.lines().forEach(line -> calls.run(EdgesTest.callOf(line)));
            for (String refusal : calls.refusals) {
                String[] words = refusal.split(" ");
                met.computeIfAbsent(words[0], name -> new TreeSet<>()).add(words[1]);
            }
        }
        return met;
    }

    private static void refusals(Row row, Set<String> promised, Set<String> met) {
        Set<String> told = refusalsIn(row.refused);
        so(row.name + " is refused as promised, " + promised + ", in that order: " + told,
                new ArrayList<>(told).equals(new ArrayList<>(promised)));
        so(row.name + " is refused as the cases show, " + met + ": " + told, told.equals(met));
        so(good(row.name) + " is not refused", refusalOf(good(row.name)).isEmpty());
    }

    private static void ranges(Row row) {
        List<MatchResult> ranges = all(RANGE, row.ranges);
        so(row.name + " has ranges where it may be OUTSIDE", row.refused.contains("OUTSIDE") == !ranges.isEmpty());
        for (MatchResult range : ranges) {
            int least = Integer.parseInt(range.group(2)), most = Integer.parseInt(range.group(3));
            for (int put : new int[] {least - 1, least, most, most + 1}) {
                String call = row.callWith(range.group(1), put), got = refusalOf(call);
                so(call + " is OUTSIDE or not, not " + got, got.equals("OUTSIDE") == (put < least || put > most));
            }
        }
    }

    private static void unknowns(Row row) {
        Matcher reason = Pattern.compile("UNKNOWN: ([^;]*)").matcher(row.refused);
        Set<String> told = new TreeSet<>(row.numbers);
        told.retainAll(reason.find() ? List.of(reason.group(1).split("\\W+")) : List.of());
        so(row.name + " says what is UNKNOWN", row.refused.contains("UNKNOWN") == !told.isEmpty());
        for (String number : row.numbers) {
            for (int put : new int[] {-NO_SUCH, -1, NO_SUCH}) {
                String call = row.callWith(number, put), got = refusalOf(call);
                so(call + " is UNKNOWN or not, not " + got, got.equals("UNKNOWN") == told.contains(number));
                so(call + " is not refused if nothing is said of " + number + ": " + got,
                        got.isEmpty() || told.contains(number) || row.ranges.contains(number + " "));
            }
        }
    }

    /** The two numbers that hang on another one. */
    private static void pairs(Row row) {
        if (row.numbers.contains("from")) {
            so(row.name + " says that from is not behind to", row.ranges.contains("from not behind to"));
            String[] words = row.callWith("from", 700).split(" ");
            for (int to = 699; to <= 700; to++) {
                words[words.length - 1] = String.valueOf(to);
                so(String.join(" ", words), refusalOf(String.join(" ", words)).equals(to < 700 ? "OUTSIDE" : ""));
            }
        }
        if (row.numbers.contains("level")) {
            so(row.name + " says that level goes up to room", row.ranges.contains("level 0 up to room"));
            for (int level : new int[] {-1, 0, 9, 10}) {
                String call = row.callWith("level", level);
                so(call, refusalOf(call).equals(level < 0 || level > 9 ? "OUTSIDE" : ""));
            }
        }
    }

    private static void full(Row row) {
        Matcher many = Pattern.compile("FULL: there are (\\d+)").matcher(row.refused);
        so(row.name + " says how many there may be", many.find() == row.refused.contains("FULL"));
        if (row.refused.contains("FULL")) {
            Calls calls = new Calls(LimitsTest.full());
            so(row.name + " is FULL", refusalOf(calls, good(row.name)).equals("FULL"));
            Checks.due("README.md: how many of " + row.name, Integer.parseInt(many.group(1)),
                    calls.run("told " + COUNTS.get(row.name)));
        }
    }
}
