import java.lang.reflect.InvocationTargetException;
import java.lang.reflect.Method;
import java.lang.reflect.Modifier;
import java.util.HashMap;
import java.util.HashSet;
import java.util.Map;
import java.util.Set;

/** Calls of the class told as texts: "main 0 1 100". Counts them, as an object is good for 512. */
final class Calls {
    private static final Map<String, Method> FACE = new HashMap<>();
    private static final String[] REFUSALS = {"UNKNOWN", "OUTSIDE", "STATE", "FULL", "NO"};
    private static final int MOST_STEPS = 400;

    static {
        for (Method m : PipeWorks.class.getDeclaredMethods()) {
            if (Modifier.isPublic(m.getModifiers())) {
                FACE.put(m.getName(), m);
            }
        }
    }

    final PipeWorks works;
    /** A name and a refusal ("draw NO") for each that came. */
    final Set<String> refusals = new HashSet<>();
    int count;

    Calls() {
        this(new PipeWorks());
    }

    Calls(PipeWorks works) {
        this.works = works;
    }

    /** The refusal that an answer of a call stands for; empty: none. Flows and readings may be small numbers below 0. */
    static String refusal(String name, int answer) {
        int moved = switch (name) {
            case "press", "flow" -> answer + 1000000;
            case "read" -> answer + 10000000;
            default -> answer;
        };
        return moved <= PipeWorks.UNKNOWN && moved >= PipeWorks.NO ? REFUSALS[-1 - moved] : "";
    }

    /** Runs a call, or one of the short forms goto, tell, text and N * call; the last call's answer. */
    int run(String line) {
        String[] words = line.split(" +");
        switch (words[0]) {
            case "goto":
                return goTo(Integer.parseInt(words[1]));
            case "tell":
                return tell(words[1]);
            case "text":
                call("wipe");
                tell(words[1]);
                return call("fault");
            default:
                return words.length > 1 && words[1].equals("*") ? repeat(Integer.parseInt(words[0]), line) : call(words);
        }
    }

    private int goTo(int tick) {
        int answer = 0;
        for (int left = tick - works.told(0); left > 0; left -= MOST_STEPS) {
            answer = call("step", String.valueOf(Math.min(left, MOST_STEPS)));
        }
        return answer;
    }

    private int tell(String text) {
        int answer = 0;
        for (char sign : text.toCharArray()) {
            answer = call("say", String.valueOf((int) sign));
        }
        return answer;
    }

    private int repeat(int times, String line) {
        int answer = 0;
        for (int i = 0; i < times; i++) {
            answer = run(line.substring(line.indexOf('*') + 1).trim());
        }
        return answer;
    }

    private int call(String... words) {
        Method m = FACE.get(words[0]);
        if (m == null || m.getParameterCount() != words.length - 1) {
            throw new IllegalArgumentException("no such call: " + String.join(" ", words));
        }
        Object[] numbers = new Object[words.length - 1];
        for (int i = 0; i < numbers.length; i++) {
            boolean isInt = m.getParameterTypes()[i] == int.class;
            numbers[i] = isInt ? (Object) Integer.valueOf(words[i + 1]) : (Object) Boolean.valueOf(words[i + 1]);
        }
        count++;
        int answer = answer(m, numbers);
        String refusal = refusal(words[0], answer);
        if (!refusal.isEmpty()) {
            refusals.add(words[0] + " " + refusal);
        }
        return answer;
    }

    private int answer(Method m, Object[] numbers) {
        try {
            return (Integer) m.invoke(works, numbers);
        } catch (InvocationTargetException | IllegalAccessException thrown) {
            throw new IllegalStateException(m.getName(), thrown);
        }
    }
}
