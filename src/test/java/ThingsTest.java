/** Promises 9 to 18: what hangs on nodes, each of its kind. */
final class ThingsTest {
    public static void main(String[] args) {
        refusals();
        draws();
        lifts();
        bridges();
        towers();
        houses();
        leaks();
        ofNodes();
        Checks.end();
    }

    private static PipeWorks withNodes(int count) {
        PipeWorks x = new PipeWorks();
        for (int i = 0; i < count; i++) {
            x.node(i, i % 4);
        }
        return x;
    }

    private static void outside(String call, int got) {
        Checks.due(call, got, PipeWorks.OUTSIDE);
    }

    private static void refusals() {
        PipeWorks x = withNodes(2);
        x.draw(1, 0, 0, 0);
        Checks.due("9: no such node", x.draw(2, -1, 0, 0), PipeWorks.UNKNOWN);
        Checks.due("10: no such node", x.lift(-1, 0, 0, 0, 0), PipeWorks.UNKNOWN);
        Checks.due("11: no such node", x.bridge(2, 0, 1, 0, 0), PipeWorks.UNKNOWN);
        Checks.due("12: no such node", x.tower(2, 0, 1, 0), PipeWorks.UNKNOWN);
        Checks.due("13: no such node", x.house(2, 0, 0, 0), PipeWorks.UNKNOWN);
        Checks.due("14: no such node", x.leak(2, 1, true), PipeWorks.UNKNOWN);
        outside("9: amount below", x.draw(0, -1, 0, 1));
        outside("9: amount above, ahead of no", x.draw(1, 1001, 0, 1));
        outside("9: from below", x.draw(0, 1, -1, 1));
        outside("9: to above", x.draw(0, 1, 0, 1441));
        outside("9: from behind to", x.draw(0, 1, 2, 1));
        outside("10: amount", x.lift(0, 1001, 0, 0, 1));
        outside("10: people below", x.lift(0, 1, -1, 0, 1));
        outside("10: people above", x.lift(0, 1, 7, 0, 1));
        outside("10: hours", x.lift(0, 1, 0, 5, 4));
        outside("11: amount", x.bridge(0, -1, 1, 0, 0));
        outside("11: period below", x.bridge(0, 1, 0, 0, 0));
        outside("11: period above", x.bridge(0, 1, 721, 0, 0));
        outside("11: phase below", x.bridge(0, 1, 1, -1, 0));
        outside("11: phase above", x.bridge(0, 1, 1, 721, 0));
        outside("11: length below", x.bridge(0, 1, 1, 0, -1));
        outside("11: length above", x.bridge(0, 1, 1, 0, 721));
        outside("12: weight below", x.tower(0, -1, 1, 0));
        outside("12: weight above", x.tower(0, 5001, 1, 0));
        outside("12: room below", x.tower(0, 0, 0, 0));
        outside("12: room above", x.tower(0, 0, 100001, 0));
        outside("12: level below", x.tower(0, 0, 1, -1));
        outside("12: level above room", x.tower(0, 0, 1, 2));
        outside("13: weight", x.house(0, 5001, 0, 0));
        outside("13: lag below", x.house(0, 0, -1, 0));
        outside("13: lag above", x.house(0, 0, 121, 0));
        outside("13: coal below", x.house(0, 0, 0, -1));
        outside("13: coal above", x.house(0, 0, 0, 101));
        outside("14: c below", x.leak(0, 0, false));
        outside("14: c above", x.leak(0, 1001, false));
        Checks.due("9: the node holds something", x.draw(1, 1, 0, 1), PipeWorks.NO);
        Checks.due("10: the node holds something", x.lift(1, 1, 0, 0, 1), PipeWorks.NO);
        Checks.due("11: the node holds something", x.bridge(1, 1, 1, 0, 1), PipeWorks.NO);
        Checks.due("12: the node holds something", x.tower(1, 1, 1, 0), PipeWorks.NO);
        Checks.due("13: the node holds something", x.house(1, 1, 1, 0), PipeWorks.NO);
        Checks.due("14: the node holds something", x.leak(1, 1, false), PipeWorks.NO);
        Checks.due("16: refused calls leave nothing", x.ofNode(0, 0), 0);
        Checks.due("15: no such node", x.clear(2), PipeWorks.UNKNOWN);
        Checks.due("15: it holds nothing", x.clear(0), PipeWorks.NO);
    }

    private static void fits(PipeWorks x, int kind, int got) {
        Checks.due(Math.min(14, 8 + kind) + ": hung", got, 1);
        Checks.due("16: kind", x.ofNode(0, 0), kind);
        Checks.due("15: cleared", x.clear(0), kind);
        Checks.due("16: nothing", x.ofNode(0, 0), 0);
    }

    private static void draws() {
        PipeWorks x = withNodes(1);
        fits(x, 1, x.draw(0, 1000, 1440, 1440));
        x.draw(0, 70, 1, 2);
        for (int tick = 0; tick < 12; tick++) {
            Checks.due("9: taken at tick " + tick, x.ofNode(0, 3), tick >= 4 && tick < 8 ? 70 : 0);
            x.step(1);
        }
        goTo(x, 4 * 1440);
        Checks.due("9: the next day, minute 0", x.ofNode(0, 3), 0);
        x.step(4);
        Checks.due("9: the next day, minute 1", x.ofNode(0, 3), 70);
    }

    private static void goTo(PipeWorks x, int tick) {
        while (x.told(0) < tick) {
            x.step(Math.min(400, tick - x.told(0)));
        }
    }

    private static void lifts() {
        PipeWorks x = withNodes(2);
        fits(x, 2, x.lift(0, 1000, 6, 0, 1440));
        fits(x, 2, x.lift(0, 0, 0, 0, 0));
        x.lift(0, 10, 5, 0, 1440);
        x.lift(1, 10, 5, 60, 61);
        for (int hour = 0; hour < 27; hour++) {
            goTo(x, 240 * hour);
            int people = (5 + 3 * (hour % 24)) % 7;
            Checks.due("10: taken in hour " + hour, x.ofNode(0, 3), 10 * people);
            Checks.due("10: by its hours", x.ofNode(1, 3), hour % 24 == 1 ? 10 : 0);
        }
    }

    private static void bridges() {
        PipeWorks x = withNodes(4);
        fits(x, 3, x.bridge(0, 1000, 720, 720, 720));
        fits(x, 3, x.bridge(0, 0, 1, 0, 0));
        x.bridge(0, 30, 7, 3, 2);
        x.bridge(1, 30, 1, 0, 0);
        x.bridge(2, 30, 1, 0, 1);
        x.bridge(3, 30, 11, 0, 1);
        for (int minute = 0; minute < 20; minute++) {
            goTo(x, 4 * minute);
            Checks.due("11: minute " + minute, x.ofNode(0, 3), (minute + 3) % 7 < 2 ? 30 : 0);
            Checks.due("11: length 0", x.ofNode(1, 3), 0);
            Checks.due("11: always", x.ofNode(2, 3), 30);
        }
        goTo(x, 4 * 1441);
        Checks.due("11: minutes go on behind the day: 1441 is 11 times 131", x.ofNode(3, 3), 30);
        Checks.due("11: 1444 left over by 7 is 2", x.ofNode(0, 3), 0);
    }

    private static void towers() {
        PipeWorks x = withNodes(3);
        fits(x, 4, x.tower(0, 5000, 100000, 100000));
        fits(x, 4, x.tower(0, 0, 1, 0));
        x.tower(0, 9, 50, 0);
        Checks.due("12: an empty one takes", x.ofNode(0, 3), 10);
        Checks.due("12: an empty one is no source", x.ofNode(0, 4), 0);
        x.tower(1, 9, 50, 1);
        Checks.due("12: another takes nothing", x.ofNode(1, 3), 0);
        Checks.due("12: another is a source", x.ofNode(1, 4), 1);
        Checks.due("12: level", x.ofNode(1, 5), 1);
        Checks.due("12: level 0 of nothing", x.ofNode(2, 5), 0);
    }

    private static void houses() {
        PipeWorks x = withNodes(2);
        fits(x, 5, x.house(0, 5000, 120, 100));
        fits(x, 5, x.house(0, 0, 0, 0));
        Checks.due("17: no such node", x.light(2, true), PipeWorks.UNKNOWN);
        Checks.due("17: no house", x.light(0, true), PipeWorks.STATE);
        x.house(0, 10, 0, 0);
        Checks.due("13: not lit", x.ofNode(0, 6), 0);
        Checks.due("13: no source, as it is not lit", x.ofNode(0, 4), 0);
        Checks.due("17: damped as it was", x.light(0, false), 0);
        Checks.due("17: lit", x.light(0, true), 0);
        Checks.due("13: lit", x.ofNode(0, 6), 1);
        Checks.due("13: a source at once, without lag", x.ofNode(0, 4), 1);
        Checks.due("13: takes nothing", x.ofNode(0, 3), 0);
        Checks.due("13: no level", x.ofNode(0, 5), 0);
        x.house(1, 10, 2, 0);
        x.step(3);
        x.light(1, true);
        x.step(5);
        Checks.due("17: lit already, steam goes on", x.light(1, true), 1);
        x.step(2);
        Checks.due("13: seven ticks", x.ofNode(1, 4), 0);
        x.step(1);
        Checks.due("13: eight ticks", x.ofNode(1, 4), 1);
        Checks.due("17: damped", x.light(1, false), 1);
        Checks.due("13: no source at once", x.ofNode(1, 4), 0);
        x.light(1, true);
        x.step(7);
        Checks.due("13: steam from the beginning", x.ofNode(1, 4), 0);
        x.step(1);
        Checks.due("13: and up again", x.ofNode(1, 4), 1);
        x.clear(1);
        x.house(1, 10, 0, 0);
        Checks.due("13: a new one is not lit", x.ofNode(1, 6), 0);
    }

    private static void leaks() {
        PipeWorks x = withNodes(3);
        fits(x, 6, x.leak(0, 1000, false));
        fits(x, 6, x.leak(0, 1, false));
        fits(x, 7, x.leak(0, 1000, true));
        x.leak(0, 5, false);
        x.leak(1, 5, true);
        Checks.due("18: no such node", x.found(3), PipeWorks.UNKNOWN);
        Checks.due("18: a leak is no burst", x.found(0), PipeWorks.STATE);
        Checks.due("18: nothing is no burst", x.found(2), PipeWorks.STATE);
        Checks.due("14: not found", x.ofNode(1, 6), 0);
        Checks.due("18: found", x.found(1), 1);
        Checks.due("18: it was", x.found(1), 0);
        Checks.due("16: found", x.ofNode(1, 6), 1);
        x.clear(1);
        x.leak(1, 5, true);
        Checks.due("14: a new one is not found", x.ofNode(1, 6), 0);
        PipeWorks y = withNodes(1);
        y.tower(0, 3333, 9, 9);
        y.work();
        y.clear(0);
        y.leak(0, 7, false);
        Checks.due("14: 7 times 3333 by 1000, as last worked", y.ofNode(0, 3), 23);
        y.clear(0);
        y.leak(0, 7, true);
        Checks.due("14: a burst: twice 23", y.ofNode(0, 3), 46);
        y.work();
        Checks.due("14: without press", y.ofNode(0, 3), 0);
    }

    private static void ofNodes() {
        PipeWorks x = withNodes(4);
        Checks.due("16: no such node", x.ofNode(4, 0), PipeWorks.UNKNOWN);
        Checks.due("16: unknown comes ahead of outside", x.ofNode(-1, 9), PipeWorks.UNKNOWN);
        Checks.due("16: what below", x.ofNode(0, -1), PipeWorks.OUTSIDE);
        Checks.due("16: what above", x.ofNode(0, 9), PipeWorks.OUTSIDE);
        Checks.due("16: height", x.ofNode(3, 1), 3);
        Checks.due("16: district", x.ofNode(3, 2), 3);
        for (int what = 3; what <= 8; what++) {
            Checks.due("16: of nothing, " + what, x.ofNode(3, what), 0);
        }
    }
}
