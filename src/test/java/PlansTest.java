/** Promises 38 to 42: blocks, houses of a plan, the best one. */
final class PlansTest {
    public static void main(String[] args) {
        blocks();
        houses();
        best();
        weightsAreLost();
        ties();
        fails();
        changes();
        Checks.end();
    }

    private static PipeWorks needing(int... needs) {
        PipeWorks x = new PipeWorks();
        for (int need : needs) {
            x.block(need);
        }
        return x;
    }

    private static void blocks() {
        PipeWorks x = new PipeWorks();
        Checks.due("38: below", x.block(-1), PipeWorks.OUTSIDE);
        Checks.due("38: above", x.block(101), PipeWorks.OUTSIDE);
        for (int i = 1; i <= 8; i++) {
            Checks.due("38: block " + i, x.block(i == 1 ? 100 : 0), i);
        }
        Checks.due("38: the ninth", x.block(0), PipeWorks.FULL);
        Checks.due("38: outside comes ahead of full", x.block(101), PipeWorks.OUTSIDE);
        Checks.due("39: how many there were", x.rest(), 8);
        Checks.due("39: none", x.rest(), 0);
        Checks.due("24: none", x.told(10), 0);
    }

    private static void houses() {
        PipeWorks x = new PipeWorks();
        Checks.due("40: no such house", x.plan(3, 0, 0), PipeWorks.UNKNOWN);
        Checks.due("40: unknown comes ahead of outside", x.plan(-1, 101, 0), PipeWorks.UNKNOWN);
        Checks.due("40: gives below", x.plan(0, -1, 0), PipeWorks.OUTSIDE);
        Checks.due("40: gives above", x.plan(0, 101, 0), PipeWorks.OUTSIDE);
        Checks.due("40: coal below", x.plan(0, 0, -1), PipeWorks.OUTSIDE);
        Checks.due("40: coal above", x.plan(0, 0, 101), PipeWorks.OUTSIDE);
        Checks.due("40: house", x.plan(2, 100, 100), 1);
        Checks.due("40: one that gives nothing", x.plan(0, 0, 0), 1);
    }

    private static void best() {
        PipeWorks x = needing(10, 10, 10);
        Checks.due("41: below", x.best(-1, -1), PipeWorks.OUTSIDE);
        Checks.due("41: above", x.best(201, -1), PipeWorks.OUTSIDE);
        Checks.due("41: houses give nothing at first", x.best(29, -1), PipeWorks.NO);
        Checks.due("41: no comes ahead of none", x.best(29, 3), PipeWorks.NO);
        Checks.due("41: weights are enough", x.best(30, -1), 0);
        x.plan(0, 10, 7);
        Checks.due("41: it must burn in the first to give in the second", x.best(10, -1), 21);
        Checks.due("41: lit in block 0", x.best(10, 0), 1);
        Checks.due("41: lit in block 1", x.best(10, 1), 1);
        Checks.due("41: lit in block 2", x.best(10, 2), 1);
        Checks.due("41: no such block", x.best(10, 3), PipeWorks.NONE);
        Checks.due("41: no such block", x.best(10, -2), PipeWorks.NONE);
        Checks.due("41: nothing can be given in the first", x.best(9, -1), PipeWorks.NO);
        Checks.due("41: two blocks of burning", x.best(20, -1), 14);
        Checks.due("41: the first row of least coal", x.best(20, 0), 0);
        Checks.due("41: then", x.best(20, 1), 1);
        Checks.due("41: then", x.best(20, 2), 1);
    }

    private static void weightsAreLost() {
        PipeWorks x = needing(0, 100, 100, 100);
        x.plan(0, 100, 1);
        Checks.due("41: what is more than 200 is lost", x.best(200, -1), 2);
        Checks.due("41: so not in the first", x.best(200, 0), 0);
        Checks.due("41: but in the second", x.best(200, 1), 0);
        Checks.due("41: and third", x.best(200, 2), 1);
        Checks.due("41: and fourth", x.best(200, 3), 1);
        PipeWorks y = needing(0, 0, 100, 100, 50);
        y.plan(1, 50, 1);
        Checks.due("41: 250 are needed", y.best(200, -1), 2);
        Checks.due("41: not to be given while it is full", y.best(200, 1), 0);
        Checks.due("41: late", y.best(200, 3), 2);
        Checks.due("41: late", y.best(200, 4), 2);
    }

    private static void ties() {
        PipeWorks x = needing(5, 5);
        x.plan(0, 5, 3);
        x.plan(1, 5, 3);
        x.plan(2, 5, 3);
        Checks.due("41: the least set", x.best(5, 0), 1);
        Checks.due("41: the least set", x.best(5, 1), 1);
        x.plan(0, 5, 4);
        Checks.due("41: less coal", x.best(5, -1), 6);
        Checks.due("41: the least set of least coal", x.best(5, 0), 2);
        x.plan(0, 0, 0);
        Checks.due("41: one that burns nothing need not be lit", x.best(5, 1), 2);
        x.plan(1, 2, 1);
        x.plan(2, 3, 1);
        Checks.due("41: two give together", x.best(5, 0), 6);
        Checks.due("41: coal of both", x.best(5, -1), 4);
        PipeWorks y = needing(0, 5, 0, 0, 5);
        y.plan(2, 5, 9);
        Checks.due("41: late rows come first", y.best(5, -1), 18);
        for (int i = 0; i < 5; i++) {
            Checks.due("41: block " + i, y.best(5, i), i >= 3 ? 4 : 0);
        }
        PipeWorks z = needing(30, 30, 30, 30, 30, 30, 30, 30);
        z.plan(0, 10, 10);
        z.plan(1, 11, 11);
        z.plan(2, 12, 12);
        Checks.due("41: eight blocks", z.best(100, 7) >= 0 ? 1 : 0, 1);
    }

    private static void fails() {
        PipeWorks x = needing(50, 100, 100);
        Checks.due("42: below", x.fails(-1), PipeWorks.OUTSIDE);
        Checks.due("42: above", x.fails(201), PipeWorks.OUTSIDE);
        Checks.due("42: in the first", x.fails(49), 0);
        Checks.due("42: in the second", x.fails(149), 1);
        Checks.due("42: in the third", x.fails(150), 2);
        Checks.due("42: in the third", x.fails(200), 2);
        x.plan(0, 20, 100);
        x.plan(2, 30, 100);
        Checks.due("42: with 50 a block but in the first", x.fails(149), 2);
        Checks.due("42: they can", x.fails(150), PipeWorks.NONE);
        Checks.due("41: then there is a best one", x.best(150, -1), 600);
        x.rest();
        Checks.due("42: no blocks", x.fails(0), PipeWorks.NONE);
    }

    private static void changes() {
        PipeWorks x = needing(5, 5);
        x.plan(0, 5, 3);
        Checks.due("41: at first", x.best(5, -1), 6);
        x.plan(0, 5, 2);
        Checks.due("41: another coal", x.best(5, -1), 4);
        x.block(5);
        Checks.due("41: another block", x.best(5, -1), 6);
        Checks.due("41: other weights", x.best(15, -1), 0);
        x.rest();
        x.block(6);
        Checks.due("41: all new", x.best(5, -1), PipeWorks.NO);
        Checks.due("41: all new", x.best(6, 0), 0);
    }
}
