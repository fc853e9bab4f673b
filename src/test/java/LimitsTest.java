import java.lang.reflect.InvocationTargetException;
import java.lang.reflect.Method;
import java.lang.reflect.Modifier;

/** Objects that are empty or full to their limits bear every call with the widest numbers; none throws. */
final class LimitsTest {
    private static final int[] WIDE = {
        Integer.MIN_VALUE, -1000001, -2, -1, 0, 1, 2, 3, 11, 12, 17, 18, 20, 40, 100, 200, 400, 1440, Integer.MAX_VALUE
    };

    public static void main(String[] args) throws IllegalAccessException {
        fullNet();
        longTextWithManyRules();
        allCalls();
        for (Method m : PipeWorks.class.getDeclaredMethods()) {
            if (Modifier.isPublic(m.getModifiers())) {
                bears(m, false);
                bears(m, true);
            }
        }
        Checks.end();
    }

    /** 12 nodes, 18 mains, 12 valves, all orders, blocks and signs. */
    static PipeWorks full() {
        PipeWorks x = new PipeWorks();
        for (int i = 0; i < 12; i++) {
            x.node(0, 0);
        }
        for (int i = 0; i < 18; i++) {
            x.main(i % 12, (i + 1 + i / 12) % 12, 1000);
        }
        for (int i = 0; i < 12; i++) {
            x.valve(i, 17 - i);
        }
        x.tower(0, 5000, 100000, 100000);
        x.house(1, 5000, 0, 100);
        x.light(1, true);
        for (int i = 0; i < 6; i++) {
            tell(x, "m<1:Sa;m>9:Oa");
            x.order(0);
        }
        for (int i = 0; i < 40; i++) {
            x.say('m');
        }
        for (int i = 0; i < 8; i++) {
            x.block(100);
        }
        for (int i = 0; i < 3; i++) {
            x.plan(i, 100, 100);
        }
        return x;
    }

    private static void tell(PipeWorks x, String text) {
        for (char sign : text.toCharArray()) {
            x.say(sign);
        }
    }

    private static void fullNet() {
        PipeWorks x = full();
        Checks.due("nodes", x.told(1), 12);
        Checks.due("mains", x.told(2), 18);
        Checks.due("valves", x.told(3), 12);
        Checks.due("signs", x.told(4), 40);
        Checks.due("orders", x.told(5), 6);
        Checks.due("blocks", x.told(10), 8);
        x.draw(11, 0, 0, 1440);
        x.lift(10, 1000, 6, 0, 1440);
        x.bridge(9, 0, 720, 720, 720);
        x.leak(8, 1000, true);
        x.step(400);
        Checks.due("6000 are too much in all 240 ticks of the first hour", x.told(6), 240);
        Checks.due("2000 are not in 160 more", x.ofNode(10, 7), 320000);
        Checks.due("coal of 100 minutes", x.told(8), 10000);
        Checks.due("the furthest rival", x.seek(1000, 5, 0) >= 0 ? 1 : 0, 1);
        Checks.due("no more rivals", x.seek(1000, 6, 0), PipeWorks.NONE);
        Checks.due("100 of 300 that can be given are lost", x.fails(100), PipeWorks.NONE);
        Checks.due("one house is enough behind the first", x.best(100, -1), 800);
        Checks.due("its bit", x.best(100, 7), 1);
        Checks.due("wrong valves", x.wrong(-1), 12);
        Checks.due("the last", x.wrong(11), 11);
    }

    private static void longTextWithManyRules() {
        PipeWorks x = new PipeWorks();
        x.node(0, 0);
        x.tower(0, 0, 100000, 99999);
        tell(x, "ta>99998:La;ta>99999:La;ta<99999:La;m<1:");
        Checks.due("fault behind 40 signs", x.fault(), 40);
        x.wipe();
        tell(x, "m<1:La;m<1:La;m<1:La;m<1:La;m<1&ta>0:La");
        Checks.due("39 signs", x.order(0), 0);
        Checks.due("five rules", x.why(0), 0b11111);
        tell(x, "ta>99998:La;ta>99999:La;ta<99999:La");
        x.order(0);
        Checks.due("numbers of five digits", x.why(1), 0b001);
    }

    /** 512 calls, most of them steps: days up to 35, counts far above a day's. */
    private static void allCalls() {
        PipeWorks x = new PipeWorks();
        x.node(200, 0);
        x.node(0, 3);
        x.main(0, 1, 1000);
        x.house(0, 5000, 0, 100);
        x.light(0, true);
        x.lift(1, 1000, 6, 0, 1440);
        x.term(3, 100);
        for (int i = 0; i < 500; i++) {
            x.step(400);
        }
        Checks.due("24: tick", x.told(0), 200000);
        Checks.due("24: coal of 50000 minutes", x.told(8), 5000000);
        Checks.due("23: never dry", x.told(6), 0);
        long strokes = 0;
        for (int tick = 0; tick < 200000; tick++) {
            strokes += 1000 * ((6 + 3 * (tick / 4 % 1440 / 60)) % 7);
        }
        Checks.due("44: strokes", x.ofNode(1, 7), strokes);
        Checks.due("45: pay", x.pay(1), strokes / 100 * 100);
    }

    private static void bears(Method m, boolean isFull) throws IllegalAccessException {
        int count = m.getParameterCount(), shifts = Math.max(1, Math.min(count, 2) * WIDE.length);
        PipeWorks x = isFull ? full() : new PipeWorks();
        boolean isFine = true;
        for (int shift = 0; shift < shifts; shift++) {
            Object[] numbers = new Object[count];
            for (int i = 0; i < count; i++) {
                int wide = WIDE[(shift * (i + 1) + i * (shift / WIDE.length)) % WIDE.length];
                numbers[i] = m.getParameterTypes()[i] == boolean.class ? (Object) (wide % 2 == 0) : (Object) wide;
            }
            try {
                m.invoke(x, numbers);
            } catch (InvocationTargetException thrown) {
                System.out.println(thrown.getCause());
                isFine = false;
            }
        }
        Checks.due(m.getName() + " never throws", isFine ? 1 : 0, 1);
    }
}
