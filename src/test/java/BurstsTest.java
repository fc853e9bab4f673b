/** Promises 35 to 37: cutting off, who is left dry, where a burst must be. */
final class BurstsTest {
    public static void main(String[] args) {
        cutting();
        leastSets();
        sources();
        seeking();
        Checks.end();
    }

    /** Nodes in a line, 0 to count - 1, by mains of 100. */
    private static PipeWorks line(int count) {
        PipeWorks x = new PipeWorks();
        for (int i = 0; i < count; i++) {
            x.node(0, 0);
        }
        for (int i = 0; i + 1 < count; i++) {
            x.main(i, i + 1, 100);
        }
        return x;
    }

    private static void cutting() {
        PipeWorks x = line(5);
        Checks.due("35: no such node", x.cut(5), PipeWorks.UNKNOWN);
        Checks.due("36: no such node", x.dry(-1), PipeWorks.UNKNOWN);
        Checks.due("35: no source: no valves", x.cut(0), 0);
        Checks.due("36: nobody", x.dry(0), 0);
        x.tower(0, 9, 9, 9);
        Checks.due("35: no valves can do it", x.cut(3), PipeWorks.NONE);
        Checks.due("36: no valves can do it", x.dry(3), PipeWorks.NONE);
        x.valve(2, 0);
        x.valve(3, 3);
        Checks.due("35: a source can't be cut off", x.cut(0), PipeWorks.NONE);
        Checks.due("35: ahead of the valve", x.cut(2), PipeWorks.NONE);
        Checks.due("35: by where it is, not by the map", x.cut(3), 0b01);
        Checks.due("36: and what is behind", x.dry(3), 0b11000);
        Checks.due("35: one of two, the least", x.cut(4), 0b01);
        x.turn(1);
        Checks.due("35: cut off as it is", x.cut(4), 0);
        Checks.due("36: it was dry ahead", x.dry(4), 0);
        Checks.due("36: but one is left", x.dry(3), 0b01000);
        Checks.due("5: nothing was turned", x.turn(0), 1);
    }

    private static void leastSets() {
        PipeWorks x = line(4);
        x.main(0, 3, 100);
        x.main(1, 3, 100);
        x.valve(4, 4);
        x.valve(2, 2);
        x.valve(3, 3);
        x.valve(0, 0);
        x.tower(0, 9, 9, 9);
        Checks.due("35: two of the ring", x.cut(1), 0b1100);
        Checks.due("35: two, not three", x.cut(3), 0b1100);
        Checks.due("36: the three of the ring", x.dry(3), 0b1110);
        x.turn(3);
        Checks.due("35: besides what is shut", x.cut(1), 0b0100);
        x.valve(1, 1);
        Checks.due("35: one, the least as bits", x.cut(2), 0b0100);
        x.turn(3);
        Checks.due("35: two sets of two, the least as bits", x.cut(2), 0b1100);
    }

    private static void sources() {
        PipeWorks x = line(3);
        x.valve(0, 0);
        x.valve(1, 1);
        x.house(0, 9, 1, 0);
        x.tower(2, 9, 9, 0);
        Checks.due("35: no source yet", x.cut(1), 0);
        x.light(0, true);
        x.step(3);
        Checks.due("35: no steam yet", x.cut(1), 0);
        x.step(1);
        Checks.due("35: steam is up", x.cut(1), 0b01);
        Checks.due("36: with what hangs behind", x.dry(1), 0b110);
        x.clear(2);
        x.tower(2, 9, 9, 1);
        Checks.due("35: two sources", x.cut(1), 0b11);
        Checks.due("36: it alone", x.dry(1), 0b010);
    }

    private static void seeking() {
        PipeWorks x = line(3);
        Checks.due("37: c below", x.seek(0, 0, 0), PipeWorks.OUTSIDE);
        Checks.due("37: c above", x.seek(1001, 0, 0), PipeWorks.OUTSIDE);
        Checks.due("37: what below", x.seek(1, 0, -1), PipeWorks.OUTSIDE);
        Checks.due("37: what above", x.seek(1, 0, 2), PipeWorks.OUTSIDE);
        x.tower(0, 1000, 100, 100);
        x.row(0, 3);
        x.put(0, 0, 100000);
        x.put(0, 1, 98000);
        x.put(0, 2, 98000);
        for (int node = 0; node < 3; node++) {
            x.read(0, node);
        }
        x.work();
        int sweeps = x.told(9);
        Checks.due("37: a burst of 1 at node 1 lowers both", x.seek(1, 0, 0), 1);
        Checks.due("37: at node 2 it lowers that further", x.seek(1, 1, 0), 2);
        Checks.due("37: two rivals", x.seek(1, 2, 0), PipeWorks.NONE);
        Checks.due("37: two rivals", x.seek(1, 2, 1), PipeWorks.NONE);
        Checks.due("37: no such rival", x.seek(1, -1, 0), PipeWorks.NONE);
        Checks.due("37: heads stay: (1000 + 999) / 2, cut", x.press(1, 0), 999);
        Checks.due("24: so do sweeps", x.told(9), sweeps);
        Checks.due("16: nothing hangs there", x.ofNode(1, 0), 0);
        misfits(x);
        x.clear(0);
        Checks.due("37: without a source all are alike: by numbers", x.seek(9, 0, 0), 0);
        Checks.due("37: by numbers", x.seek(9, 1, 0), 1);
        Checks.due("37: by numbers", x.seek(9, 2, 0), 2);
        Checks.due("37: misfit of all that is known", x.seek(9, 2, 1), 2960);
        x.draw(0, 1, 0, 0);
        x.draw(1, 1, 0, 0);
        x.draw(2, 1, 0, 0);
        Checks.due("37: no node without a thing", x.seek(9, 0, 0), PipeWorks.NONE);
    }

    /** The misfit is that of a net in which the burst is. */
    private static void misfits(PipeWorks x) {
        for (int i = 0; i < 2; i++) {
            for (int c : new int[] {1, 40, 1000}) {
                int node = x.seek(c, i, 0), told = x.seek(c, i, 1);
                x.leak(node, c, true);
                x.work();
                int misfit = 0;
                for (int k = 0; k < 3; k++) {
                    misfit += Math.abs(x.press(k, 1) - x.ofNode(k, 8));
                }
                x.clear(node);
                Checks.due("37: misfit of rival " + i + " by " + c, told, misfit);
            }
        }
    }
}
