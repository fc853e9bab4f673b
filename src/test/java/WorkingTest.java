/** Promises 19 to 24: sweeps, heads, flows and steps. */
final class WorkingTest {
    public static void main(String[] args) {
        sweeps();
        notSettled();
        nearness();
        pressures();
        flows();
        stepping();
        towersAndSpills();
        dryness();
        rememberedWork();
        tellings();
        Checks.end();
    }

    /** A tower of weight 1000 at node 0, a main of 100 to node 1, both on the ground. */
    private static PipeWorks pair(int level) {
        PipeWorks x = new PipeWorks();
        x.node(0, 0);
        x.node(0, 0);
        x.main(0, 1, 100);
        x.tower(0, 1000, 1000, level);
        return x;
    }

    private static void sweeps() {
        PipeWorks x = new PipeWorks();
        Checks.due("19: no nodes", x.work(), 1);
        x = pair(500);
        x.draw(1, 20, 0, 1440);
        Checks.due("19: 800 in the first sweep, the same in the second", x.work(), 2);
        Checks.due("21: (100 * 1000 - 1000 * 20) / 100", x.press(1, 0), 800);
        Checks.due("24: sweeps", x.told(9), 2);
        x.clear(1);
        x.draw(1, 101, 0, 1440);
        x.work();
        Checks.due("21: never below the ground", x.press(1, 0), 0);
        x = new PipeWorks();
        x.node(0, 0);
        x.node(10, 0);
        x.node(0, 0);
        x.main(0, 1, 1);
        x.main(2, 1, 2);
        x.tower(0, 50, 10, 10);
        x.tower(2, 400, 10, 10);
        Checks.due("19: two mains", x.work(), 2);
        Checks.due("21: (50 + 2 * 400) / 3, cut", x.press(1, 0), 283);
        Checks.due("21: less 10 times height", x.press(1, 1), 183);
        x = new PipeWorks();
        x.node(0, 0);
        x.node(0, 0);
        x.main(0, 1, 1);
        x.tower(0, 50, 10, 10);
        x.work();
        Checks.due("21: by a main of width 1 alone", x.press(1, 0), 50);
    }

    private static void notSettled() {
        PipeWorks x = pair(500);
        x.leak(1, 1000, true);
        Checks.due("19: 1000, 0, 1000, ..", x.work(), PipeWorks.NO);
        Checks.due("24: sweeps", x.told(9), 500);
        Checks.due("21: behind the 500th", x.press(1, 0), 0);
        x.clear(1);
        x.leak(1, 25, true);
        int head = 0, sweeps = 0;
        for (int change = 1; change != 0 && sweeps < 500; sweeps++) {
            int next = Math.max(0, (100 * 1000 - 1000 * (2 * (25 * head / 1000))) / 100);
            change = next - head;
            head = next;
        }
        int answer = x.work();
        Checks.due("19: as by hand", answer, sweeps == 500 ? PipeWorks.NO : sweeps);
        Checks.due("21: as by hand", x.press(1, 0), head);
    }

    private static void nearness() {
        PipeWorks x = new PipeWorks();
        Checks.due("20: below", x.near(-1), PipeWorks.OUTSIDE);
        Checks.due("20: above", x.near(101), PipeWorks.OUTSIDE);
        Checks.due("20: 0 at first", x.near(100), 0);
        Checks.due("20: which it was", x.near(90), 100);
        x.node(0, 0);
        x.node(0, 0);
        x.main(0, 1, 100);
        x.tower(0, 90, 10, 10);
        Checks.due("20: no more than near", x.work(), 1);
        x.near(89);
        Checks.due("20: more than near", x.work(), 2);
    }

    private static void pressures() {
        PipeWorks x = new PipeWorks();
        x.node(7, 0);
        Checks.due("21: head at first", x.press(0, 0), 70);
        Checks.due("21: press at first", x.press(0, 1), 0);
        Checks.due("21: no such node", x.press(1, 0), -1000001);
        Checks.due("21: unknown comes ahead of outside", x.press(-1, 2), -1000001);
        Checks.due("21: what below", x.press(0, -1), -1000002);
        Checks.due("21: what above", x.press(0, 2), -1000002);
        x.tower(0, 30, 10, 10);
        Checks.due("21: as last worked", x.press(0, 1), 0);
        x.work();
        Checks.due("21: head of a source", x.press(0, 0), 100);
        x.clear(0);
        Checks.due("21: as last worked", x.press(0, 1), 30);
        x.work();
        Checks.due("21: no main is open", x.press(0, 1), 0);
    }

    private static void flows() {
        PipeWorks x = pair(500);
        x.node(0, 0);
        x.main(2, 0, 7);
        x.valve(0, 0);
        x.draw(1, 20, 0, 1440);
        x.draw(2, 3, 0, 1440);
        Checks.due("22: not worked", x.flow(0), 0);
        x.work();
        Checks.due("22: from the first node", x.flow(0), 20);
        Checks.due("21: 4000 / 7, cut", x.press(2, 0), 571);
        Checks.due("22: to the first node: 7 * 429 / 1000, cut towards 0", x.flow(1), -3);
        x.turn(0);
        Checks.due("22: shut now", x.flow(0), 0);
        x.turn(0);
        Checks.due("22: open again, heads as they were", x.flow(0), 20);
        Checks.due("22: no such main", x.flow(2), -1000001);
        Checks.due("22: no such main", x.flow(-1), -1000001);
    }

    private static void stepping() {
        PipeWorks x = pair(500);
        x.draw(1, 20, 0, 1440);
        Checks.due("23: below", x.step(0), PipeWorks.OUTSIDE);
        Checks.due("23: above", x.step(401), PipeWorks.OUTSIDE);
        Checks.due("23: none dry", x.step(1), 0);
        Checks.due("24: tick", x.told(0), 1);
        Checks.due("23: level", x.ofNode(0, 5), 480);
        Checks.due("23: strokes", x.ofNode(1, 7), 20);
        Checks.due("23: 24 steps empty it; then it is dry, and takes, and is dry, too", x.step(26), 4);
        Checks.due("23: level", x.ofNode(0, 5), 0);
        Checks.due("24: dry so far", x.told(6), 4);
        x.node(0, 0);
        x.house(2, 0, 0, 7);
        x.light(2, true);
        Checks.due("24: tick", x.told(0), 27);
        x.step(1);
        Checks.due("24: coal in the fourth tick (27 left over by 4 is 3)", x.told(8), 7);
        x.step(3);
        Checks.due("24: not in the others", x.told(8), 7);
        x.step(1);
        Checks.due("24: in the next fourth", x.told(8), 14);
        x.light(2, false);
        x.step(400);
        Checks.due("24: a damped one burns nothing", x.told(8), 14);
        Checks.due("24: tick", x.told(0), 432);
    }

    private static void towersAndSpills() {
        PipeWorks x = new PipeWorks();
        x.node(0, 0);
        x.node(0, 0);
        x.main(0, 1, 100);
        x.house(0, 1000, 0, 0);
        x.light(0, true);
        x.tower(1, 500, 9, 0);
        x.step(1);
        Checks.due("23: an empty one gets 10, 9 of which it holds", x.ofNode(1, 5), 9);
        Checks.due("24: spilt", x.told(7), 1);
        x.step(1);
        Checks.due("23: a source gets what flows in", x.ofNode(1, 5), 9);
        Checks.due("24: 100 * 500 / 1000 are spilt", x.told(7), 51);
        x.light(0, false);
        x.step(1);
        Checks.due("23: held to 0", x.ofNode(1, 5), 9);
        Checks.due("24: no more", x.told(7), 51);
        x.draw(0, 1, 0, 1);
        Checks.due("9: the house is there", x.ofNode(0, 0), 5);
        x.clear(0);
        x.draw(0, 10, 0, 1440);
        Checks.due("23: it gives 10 of 9", x.step(1), 0);
        Checks.due("23: held to 0", x.ofNode(1, 5), 0);
        Checks.due("23: the draw got all", x.ofNode(0, 7), 10);
        PipeWorks y = new PipeWorks();
        y.node(0, 0);
        y.node(0, 0);
        y.main(1, 0, 100);
        y.house(0, 1000, 0, 0);
        y.light(0, true);
        y.tower(1, 500, 1000, 100);
        y.step(1);
        Checks.due("23: flows into the first node of a main count, too", y.ofNode(1, 5), 150);
    }

    private static void dryness() {
        PipeWorks x = new PipeWorks();
        x.node(0, 0);
        x.node(0, 0);
        x.draw(0, 1, 0, 1440);
        x.draw(1, 0, 0, 1440);
        Checks.due("23: one that takes nothing is not dry", x.step(3), 3);
        Checks.due("23: nothing is got", x.ofNode(0, 7), 0);
        x.clear(0);
        x.leak(0, 1000, true);
        Checks.due("23: a leak without press takes nothing", x.step(3), 0);
        x.clear(0);
        x.tower(0, 10, 10, 0);
        Checks.due("23: an empty tower is dry", x.step(3), 3);
        Checks.due("23: and stays empty", x.ofNode(0, 5), 0);
    }

    /** Each change between two works must be seen by the second. */
    private static void rememberedWork() {
        PipeWorks x = pair(1000);
        x.node(0, 0);
        x.main(1, 2, 100);
        x.valve(0, 0);
        x.draw(2, 10, 0, 1);
        x.work();
        Checks.due("19: at first: (1000 + 799) / 2 is 899, cut", x.press(2, 0), 799);
        x.turn(0);
        x.work();
        Checks.due("19: a valve was turned", x.press(2, 0), 0);
        x.turn(0);
        x.step(4);
        x.work();
        Checks.due("19: a minute went", x.press(2, 0), 999);
        x.clear(2);
        x.leak(2, 10, false);
        x.work();
        int leaking = x.press(2, 0);
        Checks.due("19: a leak takes", leaking < 1000 ? 1 : 0, 1);
        x.seek(10, 0, 0);
        x.work();
        Checks.due("19: a seek leaves it", x.press(2, 0), leaking);
        x.clear(2);
        x.leak(2, 10, true);
        x.work();
        Checks.due("19: a burst takes more", x.press(2, 0) < leaking ? 1 : 0, 1);
        x.clear(0);
        x.work();
        Checks.due("19: the tower went", x.press(2, 0), 0);
        x.tower(0, 1001, 5, 5);
        x.work();
        Checks.due("19: another tower", x.press(0, 0), 1001);
        x.node(0, 0);
        x.main(3, 0, 5);
        x.work();
        Checks.due("19: another main", x.press(3, 0), 1001);
    }

    private static void tellings() {
        PipeWorks x = new PipeWorks();
        x.say('m');
        x.block(3);
        x.block(3);
        Checks.due("24: signs", x.told(4), 1);
        Checks.due("24: blocks", x.told(10), 2);
        x.wipe();
        for (char sign : "m<1:La".toCharArray()) {
            x.say(sign);
        }
        x.order(0);
        Checks.due("24: orders", x.told(5), 1);
        Checks.due("24: signs are empty then", x.told(4), 0);
        Checks.due("24: what below", x.told(-1), PipeWorks.OUTSIDE);
        Checks.due("24: what above", x.told(11), PipeWorks.OUTSIDE);
    }
}
