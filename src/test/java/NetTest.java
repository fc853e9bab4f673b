/** Promises 1 to 8: a new object, nodes, mains, valves and the map. */
final class NetTest {
    public static void main(String[] args) {
        newObject();
        nodes();
        mains();
        valves();
        turning();
        mending();
        Checks.end();
    }

    private static void newObject() {
        PipeWorks x = new PipeWorks();
        for (int what = 0; what <= 10; what++) {
            Checks.due("1: told(" + what + ")", x.told(what), 0);
        }
        Checks.due("1: no order is in force", x.does(), PipeWorks.STATE);
        Checks.due("1: near", x.near(0), 0);
        Checks.due("1: row", x.row(3, -1), PipeWorks.NONE);
        for (int district = 0; district < 4; district++) {
            Checks.due("1: term", x.term(district, 1), 1);
        }
        Checks.due("1: plan of nothing", x.best(0, -1), 0);
        PipeWorks y = new PipeWorks();
        y.node(1, 1);
        Checks.due("1: objects share nothing", x.told(1), 0);
    }

    private static void nodes() {
        PipeWorks x = new PipeWorks();
        Checks.due("2: height below", x.node(-1, 0), PipeWorks.OUTSIDE);
        Checks.due("2: height above", x.node(201, 0), PipeWorks.OUTSIDE);
        Checks.due("2: district below", x.node(0, -1), PipeWorks.OUTSIDE);
        Checks.due("2: district above", x.node(0, 4), PipeWorks.OUTSIDE);
        Checks.due("2: nothing was made", x.told(1), 0);
        for (int i = 0; i < 12; i++) {
            Checks.due("2: node " + i, x.node(i == 0 ? 200 : i, i % 4), i);
        }
        Checks.due("2: the thirteenth", x.node(0, 0), PipeWorks.FULL);
        Checks.due("2: outside comes ahead of full", x.node(201, 0), PipeWorks.OUTSIDE);
        Checks.due("2: how many", x.told(1), 12);
        Checks.due("2: height", x.ofNode(0, 1), 200);
        Checks.due("2: district", x.ofNode(7, 2), 3);
    }

    private static PipeWorks withNodes(int count) {
        PipeWorks x = new PipeWorks();
        for (int i = 0; i < count; i++) {
            x.node(0, 0);
        }
        return x;
    }

    private static void mains() {
        PipeWorks x = withNodes(12);
        Checks.due("3: no such first node", x.main(12, 0, 1), PipeWorks.UNKNOWN);
        Checks.due("3: no such second node", x.main(0, -1, 1), PipeWorks.UNKNOWN);
        Checks.due("3: one node", x.main(3, 3, 1), PipeWorks.UNKNOWN);
        Checks.due("3: unknown comes ahead of outside", x.main(3, 3, 0), PipeWorks.UNKNOWN);
        Checks.due("3: width below", x.main(0, 1, 0), PipeWorks.OUTSIDE);
        Checks.due("3: width above", x.main(0, 1, 1001), PipeWorks.OUTSIDE);
        Checks.due("3: main", x.main(0, 1, 1000), 0);
        Checks.due("3: the same", x.main(0, 1, 5), PipeWorks.NO);
        Checks.due("3: the same, turned", x.main(1, 0, 5), PipeWorks.NO);
        for (int i = 1; i < 18; i++) {
            Checks.due("3: main " + i, x.main(i < 12 ? i : 0, i < 11 ? i + 1 : i == 11 ? 0 : i - 10, i), i);
        }
        Checks.due("3: the nineteenth", x.main(5, 11, 1), PipeWorks.FULL);
        Checks.due("3: full comes ahead of no", x.main(0, 1, 1), PipeWorks.FULL);
        Checks.due("3: outside comes ahead of full", x.main(0, 1, 0), PipeWorks.OUTSIDE);
        Checks.due("3: how many", x.told(2), 18);
    }

    /** Nodes 0 to 4 in a ring of mains 0 to 4. */
    private static PipeWorks ring() {
        PipeWorks x = withNodes(5);
        for (int i = 0; i < 5; i++) {
            x.main(i, (i + 1) % 5, 100 + i);
        }
        return x;
    }

    private static void valves() {
        PipeWorks x = ring();
        Checks.due("4: no such main", x.valve(5, 0), PipeWorks.UNKNOWN);
        Checks.due("4: no such main by the map", x.valve(0, -1), PipeWorks.UNKNOWN);
        Checks.due("4: valve", x.valve(0, 1), 0);
        Checks.due("4: the main has one", x.valve(0, 2), PipeWorks.NO);
        Checks.due("4: the map has one", x.valve(1, 1), PipeWorks.NO);
        Checks.due("4: valve", x.valve(1, 0), 1);
        Checks.due("4: valve", x.valve(2, 2), 2);
        Checks.due("4: how many", x.told(3), 3);
        Checks.due("6: valve of a main, not that of the map", x.ofMain(1, 5), 1);
        Checks.due("6: no valve", x.ofMain(4, 5), PipeWorks.NONE);
        Checks.due("6: width", x.ofMain(4, 2), 104);
        Checks.due("6: first end", x.ofMain(4, 3), 4);
        Checks.due("6: second end", x.ofMain(4, 4), 0);
        Checks.due("6: no such main", x.ofMain(5, 0), PipeWorks.UNKNOWN);
        Checks.due("6: unknown comes ahead of outside", x.ofMain(-1, 9), PipeWorks.UNKNOWN);
        Checks.due("6: what below", x.ofMain(0, -1), PipeWorks.OUTSIDE);
        Checks.due("6: what above", x.ofMain(0, 6), PipeWorks.OUTSIDE);
        Checks.due("7: how many are wrong", x.wrong(-1), 2);
        Checks.due("7: the first", x.wrong(0), 0);
        Checks.due("7: the second", x.wrong(1), 1);
        Checks.due("7: no third", x.wrong(2), PipeWorks.NONE);
        Checks.due("7: no such", x.wrong(-2), PipeWorks.NONE);
        PipeWorks y = withNodes(12);
        for (int i = 0; i < 13; i++) {
            y.main(i % 12, (i + 1 + i / 12) % 12, 1);
        }
        for (int i = 0; i < 12; i++) {
            Checks.due("4: valve " + i, y.valve(i, i), i);
        }
        Checks.due("4: the thirteenth", y.valve(12, 12), PipeWorks.FULL);
        Checks.due("4: full comes ahead of no", y.valve(0, 0), PipeWorks.FULL);
        Checks.due("4: unknown comes ahead of full", y.valve(13, 0), PipeWorks.UNKNOWN);
    }

    private static void turning() {
        PipeWorks x = ring();
        x.valve(0, 1);
        Checks.due("5: no such valve", x.turn(1), PipeWorks.UNKNOWN);
        Checks.due("5: no such valve", x.turn(-1), PipeWorks.UNKNOWN);
        Checks.due("6: open", x.ofMain(0, 0), 1);
        Checks.due("5: shut now", x.turn(0), 1);
        Checks.due("6: its main is shut", x.ofMain(0, 0), 0);
        Checks.due("6: by the map it is open", x.ofMain(0, 1), 1);
        Checks.due("6: the other main is open", x.ofMain(1, 0), 1);
        Checks.due("6: by the map it is shut", x.ofMain(1, 1), 0);
        Checks.due("5: open now", x.turn(0), 0);
        Checks.due("6: open again", x.ofMain(0, 0), 1);
        Checks.due("6: by the map, too", x.ofMain(1, 1), 1);
    }

    private static void mending() {
        PipeWorks x = ring();
        x.valve(0, 1);
        x.valve(1, 2);
        x.valve(3, 3);
        x.turn(0);
        Checks.due("8: no such valve", x.mend(3), PipeWorks.UNKNOWN);
        Checks.due("8: the map has another valve there", x.mend(1), PipeWorks.NO);
        Checks.due("8: still wrong", x.wrong(-1), 2);
        Checks.due("8: what it told", x.mend(0), 1);
        Checks.due("8: by the map its main is shut as it is", x.ofMain(0, 1), 0);
        Checks.due("8: the one it told is open", x.ofMain(1, 1), 1);
        Checks.due("8: now the other can be mended", x.mend(1), 2);
        Checks.due("8: none is wrong", x.wrong(-1), 0);
        Checks.due("8: a right one tells its own main", x.mend(2), 3);
    }
}
