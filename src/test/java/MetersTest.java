/** Promises 43 to 45: terms, meters, pay. */
final class MetersTest {
    public static void main(String[] args) {
        terms();
        strokes();
        Checks.end();
    }

    private static void terms() {
        PipeWorks x = new PipeWorks();
        Checks.due("43: no such district", x.term(4, 0), PipeWorks.UNKNOWN);
        Checks.due("43: unknown comes ahead of outside", x.term(-1, 101), PipeWorks.UNKNOWN);
        Checks.due("43: below", x.term(0, -1), PipeWorks.OUTSIDE);
        Checks.due("43: above", x.term(0, 101), PipeWorks.OUTSIDE);
        Checks.due("43: 1 at first", x.term(3, 100), 1);
        Checks.due("43: which it was", x.term(3, 0), 100);
        Checks.due("43: another district", x.term(2, 0), 1);
    }

    private static void strokes() {
        PipeWorks x = new PipeWorks();
        for (int i = 0; i < 5; i++) {
            x.node(0, i % 4);
        }
        for (int i = 1; i < 5; i++) {
            x.main(0, i, 1000);
        }
        x.tower(0, 5000, 100000, 100000);
        x.draw(1, 30, 0, 1440);
        x.lift(2, 30, 2, 0, 1440);
        x.bridge(3, 30, 1, 0, 1);
        x.leak(4, 10, false);
        Checks.due("44: no such node", x.meter(5, true), PipeWorks.UNKNOWN);
        Checks.due("45: no such node", x.pay(5), PipeWorks.UNKNOWN);
        Checks.due("45: no such node", x.pay(-1), PipeWorks.UNKNOWN);
        x.work();
        Checks.due("16: work counts nothing", x.ofNode(1, 7), 0);
        x.step(10);
        Checks.due("16: strokes of a draw", x.ofNode(1, 7), 300);
        Checks.due("45: 300 by 100", x.pay(1), 3);
        Checks.due("16: of a lift", x.ofNode(2, 7), 600);
        Checks.due("16: of a bridge", x.ofNode(3, 7), 300);
        Checks.due("16: none of a leak", x.ofNode(4, 7), 0);
        Checks.due("16: none of a tower", x.ofNode(0, 7), 0);
        Checks.due("44: it was not stuck", x.meter(1, true), 0);
        Checks.due("44: it was", x.meter(1, true), 1);
        x.step(3);
        Checks.due("16: a stuck meter counts nothing", x.ofNode(1, 7), 300);
        Checks.due("16: another does", x.ofNode(3, 7), 390);
        Checks.due("44: mended", x.meter(1, false), 1);
        x.step(1);
        Checks.due("16: and counts again", x.ofNode(1, 7), 330);
        Checks.due("45: 330 by 100 times 1", x.pay(1), 3);
        x.term(1, 50);
        Checks.due("45: first by 100, then times", x.pay(1), 150);
        x.term(1, 0);
        Checks.due("45: no term", x.pay(1), 0);
        Checks.due("45: another district: 420 by 100", x.pay(3), 4);
        x.clear(3);
        Checks.due("16: strokes are the node's", x.ofNode(3, 7), 420);
        x.draw(3, 1, 0, 1440);
        x.step(1);
        Checks.due("16: and go on", x.ofNode(3, 7), 421);
    }
}
