/** Promises 29 to 34: texts, their first fault, and what orders do. */
final class OrdersTest {
    public static void main(String[] args) {
        signs();
        faults();
        orders();
        doing();
        valvesByTheMap();
        whys();
        Checks.end();
    }

    private static void tell(PipeWorks x, String text) {
        x.wipe();
        for (char sign : text.toCharArray()) {
            x.say(sign);
        }
    }

    private static void signs() {
        PipeWorks x = new PipeWorks();
        Checks.due("29: below", x.say(32), PipeWorks.OUTSIDE);
        Checks.due("29: above", x.say(127), PipeWorks.OUTSIDE);
        for (int i = 1; i <= 40; i++) {
            Checks.due("29: sign " + i, x.say(i % 2 == 0 ? 33 : 126), i);
        }
        Checks.due("29: one more", x.say(40), PipeWorks.FULL);
        Checks.due("29: outside comes ahead of full", x.say(32), PipeWorks.OUTSIDE);
        Checks.due("30: how many there were", x.wipe(), 40);
        Checks.due("30: none", x.wipe(), 0);
    }

    private static void fault(String text, int want) {
        PipeWorks x = new PipeWorks();
        tell(x, text);
        Checks.due("31: fault of " + text, x.fault(), want);
        Checks.due("32: order of " + text, x.order(0), want == PipeWorks.NONE ? 0 : PipeWorks.NO);
        Checks.due("32: signs of " + text, x.wipe(), want == PipeWorks.NONE ? 0 : text.length());
    }

    private static void faults() {
        int none = PipeWorks.NONE;
        fault("", 0);
        fault("ga<1:La", none);
        fault("gl>99999:Dl", none);
        fault("ta>0:Sa", none);
        fault("tl<12:Or", none);
        fault("m<1:La", none);
        fault("m>00000&ga<1&tb>22:Oc;m<3:Db", none);
        fault("m<1:La;m<1:La;m<1:La;m<1:La;m<1:La;m<1:L", 40);
        fault("x", 0);
        fault("La", 0);
        fault("gm", 1);
        fault("g`", 1);
        fault("ga", 2);
        fault("ga=", 2);
        fault("ga1", 2);
        fault("ma<1", 1);
        fault("m<", 2);
        fault("m<:", 2);
        fault("m<-1", 2);
        fault("m<12345", 7);
        fault("m<123456", 7);
        fault("m<12345:La", none);
        fault("m<1&", 4);
        fault("m<1&:", 4);
        fault("m<1;", 3);
        fault("m<1:", 4);
        fault("m<1:X", 4);
        fault("m<1:l", 4);
        fault("m<1:L", 5);
        fault("m<1:Lm", 5);
        fault("m<1:Dl", none);
        fault("m<1:Ss", 5);
        fault("m<1:Om", none);
        fault("m<1:LA", 5);
        fault("m<1:La&", 6);
        fault("m<1:Laa", 6);
        fault("m<1:La;", 7);
        fault("m<1:La;;", 7);
        fault("m<1:La;m", 8);
        fault("m<1:La;m<1:La:", 13);
    }

    private static void orders() {
        PipeWorks x = new PipeWorks();
        Checks.due("32: day below", x.order(-1), PipeWorks.OUTSIDE);
        Checks.due("32: day above", x.order(401), PipeWorks.OUTSIDE);
        for (int i = 0; i < 6; i++) {
            tell(x, "m<1:La");
            Checks.due("32: order " + i, x.order(400 - i), i);
        }
        Checks.due("32: the seventh, full ahead of no", x.order(0), PipeWorks.FULL);
        Checks.due("32: outside comes ahead of full", x.order(401), PipeWorks.OUTSIDE);
        Checks.due("33: none is in force yet", x.does(), PipeWorks.STATE);
        Checks.due("34: no such order", x.why(6), PipeWorks.UNKNOWN);
        Checks.due("34: no such order", x.why(-1), PipeWorks.UNKNOWN);
        Checks.due("34: of one that is not in force", x.why(5), 1);
    }

    private static void order(PipeWorks x, int day, String text) {
        tell(x, text);
        x.order(day);
    }

    private static void doing() {
        PipeWorks x = new PipeWorks();
        x.node(0, 0);
        x.node(0, 0);
        x.house(0, 0, 0, 0);
        x.tower(1, 0, 100, 7);
        Checks.due("33: none is in force", x.does(), PipeWorks.STATE);
        order(x, 1, "m<9:Da");
        Checks.due("33: none is in force today", x.does(), PipeWorks.STATE);
        order(x, 0, "tb>6:La;tb>7:Da;m<1:Lb;m<1:Lc");
        Checks.due("33: one is done; no house, no node", x.does(), 1);
        Checks.due("33: lit", x.ofNode(0, 6), 1);
        Checks.due("33: it is so already", x.does(), 0);
        order(x, 0, "m<1:Da;m<1:La;m>0:Da");
        Checks.due("33: of one day the last told; both in their order", x.does(), 2);
        Checks.due("33: lit", x.ofNode(0, 6), 1);
        for (int i = 0; i < 15; i++) {
            x.step(384);
        }
        Checks.due("24: the next day", x.told(0), 5760);
        Checks.due("33: the latest day that is not later", x.does(), 1);
        Checks.due("33: damped", x.ofNode(0, 6), 0);
    }

    private static void valvesByTheMap() {
        PipeWorks x = new PipeWorks();
        for (int i = 0; i < 4; i++) {
            x.node(0, 0);
        }
        for (int i = 0; i < 3; i++) {
            x.main(i, i + 1, 1);
        }
        x.valve(0, 1);
        order(x, 0, "m<1:Sb;m<1:Sa;m<1:Sr");
        Checks.due("33: the valve of the map alone", x.does(), 1);
        Checks.due("33: its main is shut", x.ofMain(0, 0), 0);
        Checks.due("33: by the map the one told", x.ofMain(1, 1), 0);
        Checks.due("33: so already", x.does(), 0);
        order(x, 0, "m<1:Ob;m<1:Ob");
        Checks.due("33: open; then it is so", x.does(), 1);
        Checks.due("33: open", x.ofMain(0, 0), 1);
    }

    private static void whys() {
        PipeWorks x = new PipeWorks();
        x.node(0, 0);
        x.node(0, 0);
        x.house(0, 0, 0, 0);
        x.tower(1, 0, 100000, 99999);
        x.row(0, 2);
        x.put(0, 0, 500);
        x.put(0, 1, -100);
        x.read(0, 0);
        order(x, 9, "ga<6:La;ga>5:La;ga>4&ga<5:La;gb<1:La");
        order(x, 9, "tb>99998:La;tb<99999:La;ta<1:La");
        order(x, 9, "tl<1&gl<1:La;ml<1:La");
        Checks.due("34: rules as bits", x.why(0), 0b1001);
        Checks.due("34: levels; 0 of a house", x.why(1), 0b101);
        Checks.due("32: a fault made no order", x.told(5), 2);
        order(x, 9, "tl<1&gl<1:La;tl>0:La;gl>0:La");
        Checks.due("34: 0 of what is not there", x.why(2), 0b001);
        x.read(0, 1);
        order(x, 9, "gb<0:La;gb>0:La;m<0:La;m<2&m>0:La");
        Checks.due("34: known below 0", x.why(3), 0b0001);
        x.step(4);
        Checks.due("34: minute 1", x.why(3), 0b1001);
        x.step(4);
        Checks.due("34: minute 2", x.why(3), 0b0001);
        x.clear(1);
        Checks.due("34: the tower went", x.why(1), 0b110);
    }
}
