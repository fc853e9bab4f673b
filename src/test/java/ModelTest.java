import java.lang.reflect.InvocationTargetException;
import java.lang.reflect.Method;
import java.lang.reflect.Modifier;
import java.util.ArrayDeque;
import java.util.Arrays;
import java.util.HashMap;
import java.util.Map;
import java.util.Random;

/** Runs of 512 drawn calls on the class and on the naive model: all answers are the same. */
final class ModelTest {
    private static final int RUNS = 100, CALLS = 512;
    private static final int[] ODD = {Integer.MIN_VALUE, Integer.MAX_VALUE, -1, -2, -7, 1 << 20, 1000000007, 12, 18, 401};
    private static final String[] NODE = {"node hd"}, MAIN = {"main nng"}, VALVE = {"valve mm", "valve ve"};
    private static final String[] THINGS = {
        "draw naMM", "draw naYZ", "lift naqYZ", "bridge napps", "tower nWRL", "house nWls", "leak ncz"
    };
    /** What each theme of runs calls most; each sign behind a name draws a number (see drawn()). */
    private static final String[][] THEMES = {
        {"work", "step S", "press nb", "flow m", "ofNode nw", "light nz", "told t", "turn v", "tower nWRL", "pay n"},
        {"text", "text", "does", "why o", "read rn", "put rnH", "step S", "ofNode nw", "ofMain mw", "light nz"},
        {"cut n", "dry n", "turn v", "turn v", "mend v", "wrong i", "house nWls", "light nz", "step S", "tower nWRL"},
        {"row rk", "put rnH", "put rnH", "none rk", "read rn", "read rn", "seek cib", "seek cib", "turn v", "tower nWRL"},
        {"block C", "plan BCC", "best IX", "best IX", "fails I", "best Ii", "plan bss", "best IX", "block C", "block s"}
    };
    private static final String[] ALL = {
        "node hd", "main nng", "valve mm", "turn v", "ofMain mw", "wrong i", "mend v", "draw naMM", "lift naqYZ",
        "bridge napps", "tower nWRL", "house nWls", "leak ncz", "clear n", "ofNode nw", "light nz", "found n", "work",
        "near s", "press nb", "flow m", "step S", "told t", "row rk", "put rkH", "none rk", "read rn", "say x", "wipe",
        "fault", "order D", "does", "why o", "cut n", "dry n", "seek cib", "block C", "rest", "rest", "rest", "plan bCC", "best Ii",
        "fails I", "term ds", "meter nz", "pay n", "text"
    };
    private static final String[] TESTS = {"g#<%", "g#>%", "t#>%", "t#<%", "m<%", "m>%"};
    private static final String[] ACTS = {"L#", "D#", "S#", "O#"};

    private final Random random;
    private final String[] theme;
    private final PipeWorks works = new PipeWorks();
    private final Model model = new Model();
    private final ArrayDeque<String> coming = new ArrayDeque<>();
    private final StringBuilder trail = new StringBuilder();
    private static final Map<String, Integer> SEEN = new HashMap<>();

    private ModelTest(long seed) {
        random = new Random(seed);
        theme = THEMES[(int) (seed % THEMES.length)];
        comeOften(6 + random.nextInt(7), NODE);
        comeOften(8 + random.nextInt(16), MAIN);
        comeOften(random.nextInt(18), VALVE);
        comeOften(2 + random.nextInt(8), THINGS);
    }

    private void comeOften(int times, String[] calls) {
        for (int i = 0; i < times; i++) {
            coming.add(calls[random.nextInt(calls.length)]);
        }
    }

    public static void main(String[] args) throws ReflectiveOperationException {
        int runs = args.length > 0 ? Integer.parseInt(args[0]) : RUNS;
        long first = args.length > 1 ? Long.parseLong(args[1]) : 0;
        for (long seed = first; seed < first + runs; seed++) {
            Checks.due("run " + seed, new ModelTest(seed).run(), CALLS);
        }
        if (args.length > 2) {
            SEEN.entrySet().stream().sorted(Map.Entry.comparingByKey()).forEach(System.out::println);
        }
        Checks.end();
    }

    /** How many calls were answered alike, up to the first that was not. */
    private int run() throws ReflectiveOperationException {
        for (int i = 0; i < CALLS; i++) {
            String[] call = nextCall().split(" ");
            Object[] numbers = new Object[call.length > 1 ? call[1].length() : 0];
            for (int k = 0; k < numbers.length; k++) {
                numbers[k] = call[0].equals("say") && call[1].charAt(k) != 'x' ? (Object) (int) call[1].charAt(k)
                        : drawn(call[1].charAt(k));
            }
            trail.append(call[0]).append(Arrays.toString(numbers)).append(' ');
            Object got = answer(works, call[0], numbers);
            Object want = answer(model, call[0], numbers);
            if (!got.equals(want)) {
                System.out.println(trail);
                System.out.println("answered " + got + ", the model " + want);
                return i;
            }
            int size = (Integer) want;
            SEEN.merge(call[0] + (size > 0 ? " more" : size > -10 ? " " + size : " less"), 1, Integer::sum);
        }
        return CALLS;
    }

    private String nextCall() {
        if (coming.isEmpty()) {
            String[] calls = random.nextInt(4) == 0 ? ALL : theme;
            coming.add(calls[random.nextInt(calls.length)]);
        }
        if (coming.peek().equals("text")) {
            coming.remove();
            coming.add("wipe");
            for (char sign : drawnText().toCharArray()) {
                coming.add("say " + sign);
            }
            coming.add("fault");
            coming.add("order D");
            coming.add("why o");
        }
        return coming.remove();
    }

    private static Object answer(Object on, String name, Object[] numbers) throws ReflectiveOperationException {
        for (Method m : on.getClass().getDeclaredMethods()) {
            boolean isFit = m.getName().equals(name) && m.getParameterCount() == numbers.length;
            if (isFit && !Modifier.isPrivate(m.getModifiers())) {
                try {
                    return m.invoke(on, numbers);
                } catch (InvocationTargetException thrown) {
                    return thrown.getCause().toString();
                }
            }
        }
        throw new NoSuchMethodException(name);
    }

    private Object drawn(char kind) {
        if (kind == 'z') {
            return random.nextInt(3) > 0;
        }
        if (random.nextInt(80) == 0) {
            return ODD[random.nextInt(ODD.length)];
        }
        switch (kind) {
            case 'h': return upTo(202, 20);
            case 'd': return upTo(4, 4);
            case 'n': return random.nextInt(Math.max(1, works.told(1)));
            case 'm': return random.nextInt(Math.max(1, works.told(2)));
            case 'v': return random.nextInt(Math.max(1, works.told(3)));
            case 'e': return works.told(3);
            case 'o': return random.nextInt(Math.max(1, works.told(5)));
            case 'M': return upTo(1442, 30);
            case 'Y': return upTo(20, 2);
            case 'Z': return 1430 + random.nextInt(11);
            case 'g': return upTo(1002, 100);
            case 'w': return random.nextInt(10);
            case 'i': return random.nextInt(11) - 1;
            case 'X': return random.nextInt(works.told(10) + 1) - 1;
            case 'a': return upTo(1002, 60);
            case 'q': return upTo(8, 7);
            case 'p': return upTo(722, 9);
            case 's': return upTo(102, 7);
            case 'W': return upTo(5002, 900);
            case 'R': return upTo(100001, 900);
            case 'L': return upTo(1001, 40);
            case 'l': return upTo(122, 3);
            case 'c': return upTo(1002, 200);
            case 'b': return upTo(3, 2);
            case 'S': return upTo(402, 12);
            case 't': return random.nextInt(12);
            case 'r': return upTo(4, 2);
            case 'k': return upTo(22, 14) - 1;
            case 'H': return upTo(2002003, 600000) - 1001001 + 950000 * random.nextInt(2);
            case 'D': return upTo(4, 1);
            case 'B': return upTo(102, 3);
            case 'C': return upTo(102, 40);
            case 'I': return upTo(202, 120);
            default: return 30 + random.nextInt(100);
        }
    }

    /** Mostly below a bound that keeps runs busy, now and then below the widest one. */
    private int upTo(int widest, int most) {
        return random.nextInt(random.nextInt(4) == 0 ? widest : most);
    }

    private String drawnText() {
        StringBuilder made = new StringBuilder();
        for (int rules = 1 + random.nextInt(3); rules > 0; rules--) {
            for (int tests = 1 + random.nextInt(2); tests > 0; tests--) {
                made.append(TESTS[random.nextInt(TESTS.length)]).append(tests > 1 ? "&" : ":");
            }
            made.append(ACTS[random.nextInt(ACTS.length)]).append(rules > 1 ? ";" : "");
        }
        for (int i = 0; i < made.length(); i++) {
            if (made.charAt(i) == '#') {
                made.setCharAt(i, (char) ('a' + random.nextInt(upTo(18, 8) + 1)));
            } else if (made.charAt(i) == '%') {
                made.replace(i, i + 1, String.valueOf(upTo(20000, 9)));
            }
        }
        if (random.nextInt(4) == 0) {
            made.setCharAt(random.nextInt(made.length()), "gtm<>&:;LDSO07alr".charAt(random.nextInt(17)));
        }
        return made.toString();
    }
}
