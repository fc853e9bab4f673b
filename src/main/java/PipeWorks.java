import java.util.Arrays;

/** Power by water pipes: a city's mains, what hangs on them, and the house that steers them. */
public final class PipeWorks {
    public static final int NONE = -6, UNKNOWN = -1, OUTSIDE = -2, STATE = -3, FULL = -4, NO = -5, UNREAD = -7, STUCK = -8;

    private static final int MOST_NODES = 12, MOST_MAINS = 18, MOST_VALVES = 12;
    private static final int MOST_DISTRICTS = 4, MOST_ROWS = 4, MOST_NUMBERS = 20;
    private static final int MOST_AMOUNT = 1000, MOST_WEIGHT = 5000, DAY = 1440, TICKS = 4;
    /** A refusal is moved by these where the answer itself may be a small negative number. */
    private static final int PRESS_REFUSED = -1000000, READ_REFUSED = -10000000;
    /** Stands in a ROW for none: a number that put() refuses. */
    private static final int NO_NUMBER = -1000001;

    private final Net net = new Net();
    private final Pipes pipes = net.pipes;
    private final Orders orders = new Orders();
    private final Plan blocks = new Plan();
    private final int[] strokes = new int[MOST_NODES];
    private final boolean[] isStuck = new boolean[MOST_NODES];
    private final int[] terms = new int[MOST_DISTRICTS];
    private final int[][] numbers = new int[MOST_ROWS][MOST_NUMBERS];
    private final int[] lengths = new int[MOST_ROWS];
    private final int[] known = new int[MOST_NODES];
    private final int[] levels = new int[MOST_NODES];
    private final int[] misfits = new int[MOST_NODES];
    private int tick, dryCount, spilt, coalBurnt;

    public PipeWorks() {
        Arrays.fill(terms, 1);
        Arrays.fill(lengths, NONE);
    }

    // ---- 1 the net

    public int node(int height, int district) {
        if (!isWithin(height, 0, 200) || !isWithin(district, 0, MOST_DISTRICTS - 1)) {
            return OUTSIDE;
        }
        return net.addNode(height, district);
    }

    public int main(int a, int b, int g) {
        if (!net.has(a) || !net.has(b) || a == b) {
            return UNKNOWN;
        }
        return isWithin(g, 1, 1000) ? pipes.addMain(a, b, g) : OUTSIDE;
    }

    public int valve(int main, int map) {
        return pipes.hasMain(main) && pipes.hasMain(map) ? pipes.addValve(main, map) : UNKNOWN;
    }

    public int turn(int valve) {
        return pipes.hasValve(valve) ? pipes.turnValve(valve) : UNKNOWN;
    }

    public int ofMain(int main, int what) {
        if (!pipes.hasMain(main)) {
            return UNKNOWN;
        }
        switch (what) {
            case 0: return bit(pipes.isOpen(main));
            case 1: return bit(pipes.isOpenByMap(main));
            case 2: return pipes.width[main];
            case 3: return pipes.first[main];
            case 4: return pipes.second[main];
            case 5: return pipes.valveOn(main);
            default: return OUTSIDE;
        }
    }

    public int wrong(int i) {
        return pipes.wrongValve(i);
    }

    public int mend(int valve) {
        return pipes.hasValve(valve) ? pipes.mendMap(valve) : UNKNOWN;
    }

    // ---- 2 things

    public int draw(int node, int amount, int from, int to) {
        boolean fits = isWithin(amount, 0, MOST_AMOUNT) && areHours(from, to);
        int refusal = refusalToHang(node, fits);
        return refusal < 0 ? refusal : net.hang(node, new Draw(amount, from, to));
    }

    public int lift(int node, int amount, int people, int from, int to) {
        boolean fits = isWithin(amount, 0, MOST_AMOUNT) && isWithin(people, 0, 6) && areHours(from, to);
        int refusal = refusalToHang(node, fits);
        return refusal < 0 ? refusal : net.hang(node, new Lift(amount, people, from, to));
    }

    public int bridge(int node, int amount, int period, int phase, int length) {
        boolean fits = isWithin(amount, 0, MOST_AMOUNT) && isWithin(period, 1, 720)
                && isWithin(phase, 0, 720) && isWithin(length, 0, 720);
        int refusal = refusalToHang(node, fits);
        return refusal < 0 ? refusal : net.hang(node, new Bridge(amount, period, phase, length));
    }

    public int tower(int node, int weight, int room, int level) {
        boolean fits = isWithin(weight, 0, MOST_WEIGHT) && isWithin(room, 1, 100000) && isWithin(level, 0, room);
        int refusal = refusalToHang(node, fits);
        return refusal < 0 ? refusal : net.hang(node, new Tower(weight, room, level));
    }

    public int house(int node, int weight, int lag, int coal) {
        boolean fits = isWithin(weight, 0, MOST_WEIGHT) && isWithin(lag, 0, 120) && isWithin(coal, 0, 100);
        int refusal = refusalToHang(node, fits);
        return refusal < 0 ? refusal : net.hang(node, new House(weight, lag, coal));
    }

    public int leak(int node, int c, boolean burst) {
        int refusal = refusalToHang(node, isWithin(c, 1, 1000));
        return refusal < 0 ? refusal : net.hang(node, new Leak(c, burst));
    }

    public int clear(int node) {
        return net.has(node) ? net.unhang(node) : UNKNOWN;
    }

    public int ofNode(int node, int what) {
        if (!net.has(node)) {
            return UNKNOWN;
        }
        Thing thing = net.things[node];
        switch (what) {
            case 0: return thing == null ? 0 : thing.kind();
            case 1: return net.heights[node];
            case 2: return net.districts[node];
            case 3: return net.taken(node, tick);
            case 4: return bit(net.isSource(node, tick));
            case 5: return thing == null ? 0 : thing.held();
            case 6: return bit(thing != null && thing.isLitOrFound());
            case 7: return strokes[node];
            case 8: return known[node];
            default: return OUTSIDE;
        }
    }

    public int light(int node, boolean is) {
        if (!net.has(node)) {
            return UNKNOWN;
        }
        if (net.things[node] instanceof House house) {
            return bit(house.setLit(is, tick));
        }
        return STATE;
    }

    public int found(int node) {
        if (!net.has(node)) {
            return UNKNOWN;
        }
        if (net.things[node] instanceof Leak leak && leak.isBurst) {
            int answer = bit(!leak.isFound);
            leak.isFound = true;
            return answer;
        }
        return STATE;
    }

    // ---- 3 working

    public int work() {
        net.settle(tick);
        return net.isSettled ? net.sweeps : NO;
    }

    public int near(int v) {
        if (!isWithin(v, 0, 100)) {
            return OUTSIDE;
        }
        int was = net.near;
        net.near = v;
        return was;
    }

    public int press(int node, int what) {
        if (!net.has(node)) {
            return PRESS_REFUSED + UNKNOWN;
        }
        if (!isWithin(what, 0, 1)) {
            return PRESS_REFUSED + OUTSIDE;
        }
        return what == 0 ? net.heads[node] : net.pressAt(node);
    }

    public int flow(int main) {
        if (!pipes.hasMain(main)) {
            return PRESS_REFUSED + UNKNOWN;
        }
        return pipes.isOpen(main) ? net.flowOf(main) : 0;
    }

    public int step(int n) {
        if (!isWithin(n, 1, 400)) {
            return OUTSIDE;
        }
        int was = dryCount;
        for (int i = 0; i < n; i++) {
            net.settle(tick);
            stepThings(pipes.openMains(0));
            tick++;
        }
        return dryCount - was;
    }

    public int told(int what) {
        switch (what) {
            case 0: return tick;
            case 1: return net.nodes;
            case 2: return pipes.mains;
            case 3: return pipes.valves;
            case 4: return orders.signCount;
            case 5: return orders.orderCount;
            case 6: return dryCount;
            case 7: return spilt;
            case 8: return coalBurnt;
            case 9: return net.sweeps;
            case 10: return blocks.blockCount;
            default: return OUTSIDE;
        }
    }

    // ---- 4 gauges

    public int row(int row, int length) {
        if (!isWithin(row, 0, MOST_ROWS - 1)) {
            return UNKNOWN;
        }
        if (!isWithin(length, -1, MOST_NUMBERS)) {
            return OUTSIDE;
        }
        int was = lengths[row];
        lengths[row] = length == -1 ? NONE : length;
        Arrays.fill(numbers[row], 0);
        return was;
    }

    public int put(int row, int i, int hundredths) {
        if (!hasNumber(row, i)) {
            return UNKNOWN;
        }
        if (!isWithin(hundredths, -1000000, 1000000)) {
            return OUTSIDE;
        }
        numbers[row][i] = hundredths;
        return 1;
    }

    public int none(int row, int i) {
        if (!hasNumber(row, i)) {
            return UNKNOWN;
        }
        numbers[row][i] = NO_NUMBER;
        return 1;
    }

    public int read(int row, int node) {
        if (!net.has(node) || !isWithin(row, 0, MOST_ROWS - 1)) {
            return READ_REFUSED + UNKNOWN;
        }
        if (!hasNumber(row, node)) {
            return READ_REFUSED + UNREAD;
        }
        if (numbers[row][node] == NO_NUMBER) {
            return READ_REFUSED + STUCK;
        }
        known[node] = numbers[row][node] / 100;
        return known[node];
    }

    // ---- 5 orders

    public int say(int sign) {
        return isWithin(sign, 33, 126) ? orders.addSign(sign) : OUTSIDE;
    }

    public int wipe() {
        return orders.dropSigns();
    }

    public int fault() {
        return orders.firstFault();
    }

    public int order(int day) {
        return isWithin(day, 0, 400) ? orders.addOrder(day) : OUTSIDE;
    }

    public int does() {
        int order = orders.inForce(tick / TICKS / DAY);
        if (order == NONE) {
            return STATE;
        }
        int rules = rulesThatAreSo(order);
        int done = 0;
        for (int rule = 0; rule < Orders.MOST_SIGNS; rule++) {
            int at = orders.actOf(order, rule);
            if (at == NONE) {
                break;
            }
            if (hasBit(rules, rule) && tryAct(orders.signOf(order, at), orders.signOf(order, at + 1) - 'a')) {
                done++;
            }
        }
        return done;
    }

    public int why(int order) {
        return orders.hasOrder(order) ? rulesThatAreSo(order) : UNKNOWN;
    }

    // ---- 6 bursts

    public int cut(int node) {
        return net.has(node) ? pipes.fewestValves(node, net.sources(tick)) : UNKNOWN;
    }

    public int dry(int node) {
        if (!net.has(node)) {
            return UNKNOWN;
        }
        int sources = net.sources(tick);
        int set = pipes.fewestValves(node, sources);
        return set == NONE ? NONE : pipes.joined(sources, 0) & ~pipes.joined(sources, set);
    }

    public int seek(int c, int i, int what) {
        if (!isWithin(c, 1, 1000) || !isWithin(what, 0, 1)) {
            return OUTSIDE;
        }
        net.keepHeads();
        tryBursts(new Leak(c, true));
        net.takeBackHeads();
        int rival = rivalAt(i);
        if (rival == NONE) {
            return NONE;
        }
        return what == 0 ? rival : misfits[rival];
    }

    // ---- 7 plans

    public int block(int need) {
        return isWithin(need, 0, 100) ? blocks.addBlock(need) : OUTSIDE;
    }

    public int rest() {
        return blocks.dropBlocks();
    }

    public int plan(int h, int gives, int coal) {
        if (!isWithin(h, 0, Plan.HOUSES - 1)) {
            return UNKNOWN;
        }
        if (!isWithin(gives, 0, 100) || !isWithin(coal, 0, 100)) {
            return OUTSIDE;
        }
        blocks.setHouse(h, gives, coal);
        return 1;
    }

    public int best(int weights, int i) {
        if (!isWithin(weights, 0, Plan.MOST_WEIGHTS)) {
            return OUTSIDE;
        }
        int coal = blocks.coalFrom(weights);
        if (coal >= Plan.NEVER) {
            return NO;
        }
        return i == -1 ? coal : blocks.litIn(i, weights);
    }

    public int fails(int weights) {
        return isWithin(weights, 0, Plan.MOST_WEIGHTS) ? blocks.firstFailure(weights) : OUTSIDE;
    }

    // ---- 8 meters

    public int term(int district, int v) {
        if (!isWithin(district, 0, MOST_DISTRICTS - 1)) {
            return UNKNOWN;
        }
        if (!isWithin(v, 0, 100)) {
            return OUTSIDE;
        }
        int was = terms[district];
        terms[district] = v;
        return was;
    }

    public int meter(int node, boolean stuck) {
        if (!net.has(node)) {
            return UNKNOWN;
        }
        int was = bit(isStuck[node]);
        isStuck[node] = stuck;
        return was;
    }

    public int pay(int node) {
        return net.has(node) ? strokes[node] / 100 * terms[net.districts[node]] : UNKNOWN;
    }

    // ---- what the calls share

    private static boolean isWithin(int v, int least, int most) {
        return v >= least && v <= most;
    }

    private static boolean areHours(int from, int to) {
        return isWithin(from, 0, DAY) && isWithin(to, from, DAY);
    }

    private static int bit(boolean is) {
        return is ? 1 : 0;
    }

    private static boolean hasBit(int bits, int i) {
        return (bits >> i & 1) != 0;
    }

    private int refusalToHang(int node, boolean fits) {
        if (!net.has(node)) {
            return UNKNOWN;
        }
        if (!fits) {
            return OUTSIDE;
        }
        return net.things[node] == null ? 0 : NO;
    }

    private void stepThings(int open) {
        for (int node = 0; node < net.nodes; node++) {
            Thing thing = net.things[node];
            if (thing == null) {
                continue;
            }
            int got = net.taken(node, tick);
            if (got >= 1 && net.pressAt(node) == 0) {
                dryCount++;
                got = 0;
            }
            if (!isStuck[node]) {
                strokes[node] += thing.strokesOf(got);
            }
            if (thing.givesAndTakes()) {
                spilt += thing.fill(got, net.flowOut(node, open));
            }
            coalBurnt += thing.burns(tick);
        }
    }

    private boolean hasNumber(int row, int i) {
        return isWithin(row, 0, MOST_ROWS - 1) && i >= 0 && i < lengths[row];
    }

    private int rulesThatAreSo(int order) {
        for (int node = 0; node < MOST_NODES; node++) {
            Thing thing = net.things[node];
            levels[node] = thing == null ? 0 : thing.held();
        }
        return orders.rulesSo(order, known, levels, tick / TICKS % DAY);
    }

    /** Whether an ACT changed something: only then it counts. */
    private boolean tryAct(int act, int letter) {
        return act == 'L' || act == 'D' ? trySetHouse(letter, act == 'L') : trySetValve(letter, act == 'S');
    }

    private boolean trySetHouse(int node, boolean lit) {
        if (net.has(node) && net.things[node] instanceof House house) {
            return house.setLit(lit, tick) != lit;
        }
        return false;
    }

    private boolean trySetValve(int main, boolean shut) {
        int valve = pipes.valveTold(main);
        if (valve == NONE || pipes.isShut(valve) == shut) {
            return false;
        }
        pipes.turnValve(valve);
        return true;
    }

    /** Fills the misfits; a NODE that holds something is no rival, and its misfit is NONE. */
    private void tryBursts(Leak burst) {
        for (int node = 0; node < net.nodes; node++) {
            misfits[node] = NONE;
            if (net.things[node] == null) {
                net.things[node] = burst;
                net.runSweeps(tick);
                net.things[node] = null;
                misfits[node] = misfitToKnown();
            }
        }
    }

    private int misfitToKnown() {
        int sum = 0;
        for (int node = 0; node < net.nodes; node++) {
            sum += Math.abs(net.pressAt(node) - known[node]);
        }
        return sum;
    }

    private int rivalAt(int place) {
        for (int node = 0; node < net.nodes; node++) {
            if (misfits[node] != NONE && rivalsAheadOf(node) == place) {
                return node;
            }
        }
        return NONE;
    }

    private int rivalsAheadOf(int node) {
        int ahead = 0;
        for (int other = 0; other < net.nodes; other++) {
            boolean isLess = misfits[other] < misfits[node] || misfits[other] == misfits[node] && other < node;
            if (misfits[other] != NONE && isLess) {
                ahead++;
            }
        }
        return ahead;
    }

    /** What a NODE may hold; a kind says of itself only what differs from nothing. */
    private abstract static class Thing {
        abstract int kind();

        int takes(int tick, int press) {
            return 0;
        }

        boolean isSource(int tick) {
            return false;
        }

        int weight() {
            return 0;
        }

        int held() {
            return 0;
        }

        boolean isLitOrFound() {
            return false;
        }

        int strokesOf(int got) {
            return 0;
        }

        boolean givesAndTakes() {
            return false;
        }

        /** Takes in what was got, or gives what flows out: what is spilt. */
        int fill(int got, int out) {
            return 0;
        }

        int burns(int tick) {
            return 0;
        }
    }

    private static class Draw extends Thing {
        final int amount, from, to;

        Draw(int amount, int from, int to) {
            this.amount = amount;
            this.from = from;
            this.to = to;
        }

        int kind() {
            return 1;
        }

        int takes(int tick, int press) {
            int minute = tick / TICKS;
            return minute % DAY >= from && minute % DAY < to ? takesIn(minute) : 0;
        }

        int takesIn(int minute) {
            return amount;
        }

        int strokesOf(int got) {
            return got;
        }
    }

    private static final class Lift extends Draw {
        final int people;

        Lift(int amount, int people, int from, int to) {
            super(amount, from, to);
            this.people = people;
        }

        int kind() {
            return 2;
        }

        int takesIn(int minute) {
            int hour = minute % DAY / 60;
            return amount * ((people + 3 * hour) % 7);
        }
    }

    private static final class Bridge extends Draw {
        final int period, phase, length;

        Bridge(int amount, int period, int phase, int length) {
            super(amount, 0, DAY);
            this.period = period;
            this.phase = phase;
            this.length = length;
        }

        int kind() {
            return 3;
        }

        int takesIn(int minute) {
            return period > 0 && (minute + phase) % period < length ? amount : 0;
        }
    }

    private static class Tower extends Thing {
        final int weight, room;
        int level;

        Tower(int weight, int room, int level) {
            this.weight = weight;
            this.room = room;
            this.level = level;
        }

        int kind() {
            return 4;
        }

        int takes(int tick, int press) {
            return level == 0 ? 10 : 0;
        }

        boolean isSource(int tick) {
            return level > 0;
        }

        int weight() {
            return weight;
        }

        int held() {
            return level;
        }

        boolean givesAndTakes() {
            return true;
        }

        int fill(int got, int out) {
            int next = level > 0 ? level - out : got;
            level = Math.max(0, Math.min(room, next));
            return Math.max(0, next - room);
        }
    }

    private static final class House extends Tower {
        final int lag, coal;
        boolean isLit;
        int litSince;

        House(int weight, int lag, int coal) {
            super(weight, 0, 0);
            this.lag = lag;
            this.coal = coal;
        }

        int kind() {
            return 5;
        }

        int takes(int tick, int press) {
            return 0;
        }

        boolean isSource(int tick) {
            return isLit && tick - litSince >= lag * TICKS;
        }

        boolean isLitOrFound() {
            return isLit;
        }

        boolean givesAndTakes() {
            return false;
        }

        int burns(int tick) {
            return isLit && tick % TICKS == TICKS - 1 ? coal : 0;
        }

        /** Whether it was LIT; one that is LIT already keeps its steam. */
        boolean setLit(boolean is, int tick) {
            boolean was = isLit;
            if (is && !was) {
                litSince = tick;
            }
            isLit = is;
            return was;
        }
    }

    private static final class Leak extends Thing {
        final int c;
        final boolean isBurst;
        boolean isFound;

        Leak(int c, boolean isBurst) {
            this.c = c;
            this.isBurst = isBurst;
        }

        int kind() {
            return isBurst ? 7 : 6;
        }

        int takes(int tick, int press) {
            int lost = press < 0 ? 0 : c * press / 1000;
            return isBurst ? 2 * lost : lost;
        }

        boolean isLitOrFound() {
            return isFound;
        }
    }

    /** MAINS and VALVES: how they lie, and what they join. Sets of them are bits. */
    private static final class Pipes {
        int mains, valves, shut;
        final int[] first = new int[MOST_MAINS], second = new int[MOST_MAINS], width = new int[MOST_MAINS];
        final int[] on = new int[MOST_VALVES], told = new int[MOST_VALVES];

        boolean hasMain(int main) {
            return main >= 0 && main < mains;
        }

        boolean hasValve(int valve) {
            return valve >= 0 && valve < valves;
        }

        int addMain(int a, int b, int g) {
            if (mains >= MOST_MAINS) {
                return FULL;
            }
            for (int m = 0; m < mains; m++) {
                if (first[m] == a && second[m] == b || first[m] == b && second[m] == a) {
                    return NO;
                }
            }
            first[mains] = a;
            second[mains] = b;
            width[mains] = g;
            return mains++;
        }

        int addValve(int main, int map) {
            if (valves >= MOST_VALVES) {
                return FULL;
            }
            if (valveOn(main) != NONE || valveTold(map) != NONE) {
                return NO;
            }
            on[valves] = main;
            told[valves] = map;
            return valves++;
        }

        int valveOn(int main) {
            return valveIn(on, main);
        }

        int valveTold(int main) {
            return valveIn(told, main);
        }

        private int valveIn(int[] mainOf, int main) {
            for (int v = 0; v < valves; v++) {
                if (mainOf[v] == main) {
                    return v;
                }
            }
            return NONE;
        }

        boolean isShut(int valve) {
            return hasBit(shut, valve);
        }

        int turnValve(int valve) {
            shut ^= 1 << valve;
            return bit(isShut(valve));
        }

        boolean isOpen(int main) {
            int valve = valveOn(main);
            return valve == NONE || !isShut(valve);
        }

        boolean isOpenByMap(int main) {
            int valve = valveTold(main);
            return valve == NONE || !isShut(valve);
        }

        int wrongValve(int i) {
            int count = 0;
            for (int v = 0; v < valves; v++) {
                if (on[v] != told[v]) {
                    if (count == i) {
                        return v;
                    }
                    count++;
                }
            }
            return i == -1 ? count : NONE;
        }

        int mendMap(int valve) {
            int other = valveTold(on[valve]);
            if (other != NONE && other != valve) {
                return NO;
            }
            int was = told[valve];
            told[valve] = on[valve];
            return was;
        }

        /** The OPEN MAINS, if these VALVES were shut besides. */
        int openMains(int besides) {
            int open = (1 << mains) - 1;
            for (int v = 0; v < valves; v++) {
                if (hasBit(shut | besides, v)) {
                    open &= ~(1 << on[v]);
                }
            }
            return open;
        }

        /** All NODES that one of these is joined to, if these VALVES were shut besides. */
        int joined(int seeds, int besides) {
            int open = openMains(besides);
            int reached = seeds;
            for (int pass = 0; pass < MOST_NODES; pass++) {
                int was = reached;
                for (int m = 0; m < mains; m++) {
                    int ends = 1 << first[m] | 1 << second[m];
                    if (hasBit(open, m) && (reached & ends) != 0) {
                        reached |= ends;
                    }
                }
                if (reached == was) {
                    break;
                }
            }
            return reached;
        }

        int fewestValves(int node, int sources) {
            int sets = 1 << valves;
            if (hasBit(joined(sources, sets - 1), node)) {
                return NONE;
            }
            for (int size = 0; size <= valves; size++) {
                for (int set = 0; set < sets; set++) {
                    boolean isFit = Integer.bitCount(set) == size && (set & shut) == 0;
                    if (isFit && !hasBit(joined(sources, set), node)) {
                        return set;
                    }
                }
            }
            return NONE;
        }
    }

    /** NODES with their HEADS, and the sweeps that find these. */
    private static final class Net {
        private static final int MOST_SWEEPS = 500, INPUTS = MOST_NODES + 3;

        final Pipes pipes = new Pipes();
        int nodes, near, sweeps;
        boolean isSettled;
        final int[] heights = new int[MOST_NODES], districts = new int[MOST_NODES], heads = new int[MOST_NODES];
        final Thing[] things = new Thing[MOST_NODES];
        private final boolean[] isHeld = new boolean[MOST_NODES];
        private final int[] kept = new int[MOST_NODES], marked = new int[MOST_NODES], inputs = new int[INPUTS];
        private final int[] begin = new int[MOST_NODES + 1];
        private final int[] farEnd = new int[2 * MOST_MAINS], farWidth = new int[2 * MOST_MAINS];
        private boolean isWorked;

        boolean has(int node) {
            return node >= 0 && node < nodes;
        }

        int addNode(int height, int district) {
            if (nodes >= MOST_NODES) {
                return FULL;
            }
            heights[nodes] = height;
            districts[nodes] = district;
            heads[nodes] = 10 * height;
            return nodes++;
        }

        int hang(int node, Thing thing) {
            things[node] = thing;
            return 1;
        }

        int unhang(int node) {
            Thing thing = things[node];
            if (thing == null) {
                return NO;
            }
            things[node] = null;
            return thing.kind();
        }

        int pressAt(int node) {
            return heads[node] - 10 * heights[node];
        }

        int taken(int node, int tick) {
            Thing thing = things[node];
            return thing == null ? 0 : thing.takes(tick, pressAt(node));
        }

        boolean isSource(int node, int tick) {
            Thing thing = things[node];
            return thing != null && thing.isSource(tick);
        }

        int sources(int tick) {
            int bits = 0;
            for (int node = 0; node < nodes; node++) {
                if (isSource(node, tick)) {
                    bits |= 1 << node;
                }
            }
            return bits;
        }

        int flowOf(int main) {
            return pipes.width[main] * (heads[pipes.first[main]] - heads[pipes.second[main]]) / 1000;
        }

        int flowOut(int node, int open) {
            int out = 0;
            for (int m = 0; m < pipes.mains; m++) {
                if (hasBit(open, m)) {
                    out += pipes.first[m] == node ? flowOf(m) : pipes.second[m] == node ? -flowOf(m) : 0;
                }
            }
            return out;
        }

        void keepHeads() {
            System.arraycopy(heads, 0, kept, 0, MOST_NODES);
        }

        void takeBackHeads() {
            System.arraycopy(kept, 0, heads, 0, MOST_NODES);
        }

        /** Most TICKS find everything as it was: the HEADS of the last work are still right then. */
        void settle(int tick) {
            boolean isChanged = noteInputs(tick);
            if (isWorked && !isChanged) {
                return;
            }
            isWorked = true;
            int answer = runSweeps(tick);
            isSettled = answer != NO;
            sweeps = isSettled ? answer : MOST_SWEEPS;
        }

        private boolean noteInputs(int tick) {
            boolean isChanged = noteInput(MOST_NODES, nodes);
            isChanged |= noteInput(MOST_NODES + 1, pipes.openMains(0));
            isChanged |= noteInput(MOST_NODES + 2, near);
            for (int node = 0; node < nodes; node++) {
                isChanged |= noteInput(node, inputOf(node, tick));
            }
            return isChanged;
        }

        private boolean noteInput(int i, int input) {
            boolean isChanged = inputs[i] != input;
            inputs[i] = input;
            return isChanged;
        }

        /** One number for all that a NODE means to the sweeps: a kind's taking at one PRESS tells that at each. */
        private int inputOf(int node, int tick) {
            Thing thing = things[node];
            if (thing == null) {
                return 0;
            }
            return thing.isSource(tick) ? -1 - thing.weight() : thing.takes(tick, 1000) * 8 + thing.kind();
        }

        /** SWEEPS from the beginning: how many; NO. */
        int runSweeps(int tick) {
            beginHeads(tick);
            listMains();
            markHeads();
            int left = MOST_SWEEPS, age = 0, patience = 1;
            while (left > 0) {
                left--;
                if (sweep(tick) <= near) {
                    return MOST_SWEEPS - left;
                }
                age++;
                if (age > 0 && isAsMarked()) {
                    // HEADS go round in a ring for good: whole rounds can be left out.
                    left %= age;
                } else if (age >= patience) {
                    markHeads();
                    patience *= 2;
                    age = 0;
                }
            }
            return NO;
        }

        private void beginHeads(int tick) {
            for (int node = 0; node < nodes; node++) {
                isHeld[node] = isSource(node, tick);
                int weight = isHeld[node] && things[node] != null ? things[node].weight() : 0;
                heads[node] = 10 * heights[node] + weight;
            }
        }

        /** OPEN MAINS by NODES: from begin[node] on, ahead of begin[node + 1]. */
        private void listMains() {
            int open = pipes.openMains(0), count = 0;
            for (int node = 0; node < nodes; node++) {
                begin[node] = count;
                for (int m = 0; m < pipes.mains; m++) {
                    boolean isFirst = pipes.first[m] == node;
                    if (hasBit(open, m) && (isFirst || pipes.second[m] == node) && count < farEnd.length) {
                        farEnd[count] = isFirst ? pipes.second[m] : pipes.first[m];
                        farWidth[count] = pipes.width[m];
                        count++;
                    }
                }
            }
            begin[nodes] = count;
        }

        private void markHeads() {
            System.arraycopy(heads, 0, marked, 0, MOST_NODES);
        }

        private boolean isAsMarked() {
            for (int node = 0; node < nodes; node++) {
                if (heads[node] != marked[node]) {
                    return false;
                }
            }
            return true;
        }

        /** One SWEEP: the most that a HEAD changed by. */
        private int sweep(int tick) {
            int most = 0;
            for (int node = 0; node < nodes; node++) {
                if (!isHeld[node]) {
                    int next = nextHead(node, taken(node, tick));
                    most = Math.max(most, Math.abs(next - heads[node]));
                    heads[node] = next;
                }
            }
            return most;
        }

        private int nextHead(int node, int taken) {
            int sum = 0, widths = 0;
            for (int i = begin[node]; i < begin[node + 1]; i++) {
                sum += farWidth[i] * heads[farEnd[i]];
                widths += farWidth[i];
            }
            int ground = 10 * heights[node];
            if (widths <= 0) {
                return ground;
            }
            return Math.max(ground, (sum - 1000 * taken) / widths);
        }
    }

    /** Signs that are being told, and ORDERS as texts that are without FAULT. */
    private static final class Orders {
        static final int MOST_SIGNS = 40, MOST_ORDERS = 6;

        /** What may come next; behind a figure it is FIGURES and how many there were. */
        private static final int TEST = 0, NODE = 1, COMPARE = 2, NUMBER = 3, ACT = 4, ACT_NODE = 5, ACT_MAIN = 6,
                RULE_END = 7, FIGURES = 8, MOST_FIGURES = 5;

        int signCount, orderCount;
        private final int[] signs = new int[MOST_SIGNS];
        private final int[][] texts = new int[MOST_ORDERS][MOST_SIGNS];
        private final int[] sizes = new int[MOST_ORDERS], days = new int[MOST_ORDERS];

        int addSign(int sign) {
            if (signCount >= MOST_SIGNS) {
                return FULL;
            }
            signs[signCount] = sign;
            signCount++;
            return signCount;
        }

        int dropSigns() {
            int was = signCount;
            signCount = 0;
            return was;
        }

        int addOrder(int day) {
            if (orderCount >= MOST_ORDERS) {
                return FULL;
            }
            if (firstFault() != NONE) {
                return NO;
            }
            System.arraycopy(signs, 0, texts[orderCount], 0, MOST_SIGNS);
            sizes[orderCount] = dropSigns();
            days[orderCount] = day;
            return orderCount++;
        }

        boolean hasOrder(int order) {
            return order >= 0 && order < orderCount;
        }

        int firstFault() {
            int due = TEST;
            for (int i = 0; i < signCount; i++) {
                due = dueBehind(due, signs[i]);
                if (due == NONE) {
                    return i;
                }
            }
            return due == RULE_END ? NONE : signCount;
        }

        /** What is due behind a sign where this was due; NONE: the sign does not fit. */
        private static int dueBehind(int due, int sign) {
            switch (due) {
                case TEST: return sign == 'm' ? COMPARE : sign == 'g' || sign == 't' ? NODE : NONE;
                case NODE: return isWithin(sign, 'a', 'l') ? COMPARE : NONE;
                case COMPARE: return sign == '<' || sign == '>' ? NUMBER : NONE;
                case NUMBER: return isFigure(sign) ? FIGURES + 1 : NONE;
                case ACT: return sign == 'L' || sign == 'D' ? ACT_NODE : sign == 'S' || sign == 'O' ? ACT_MAIN : NONE;
                case ACT_NODE: return isWithin(sign, 'a', 'l') ? RULE_END : NONE;
                case ACT_MAIN: return isWithin(sign, 'a', 'r') ? RULE_END : NONE;
                case RULE_END: return sign == ';' ? TEST : NONE;
                default: return dueBehindFigure(due, sign);
            }
        }

        private static int dueBehindFigure(int due, int sign) {
            if (sign == '&') {
                return TEST;
            }
            if (sign == ':') {
                return ACT;
            }
            return isFigure(sign) && due < FIGURES + MOST_FIGURES ? due + 1 : NONE;
        }

        private static boolean isFigure(int sign) {
            return isWithin(sign, '0', '9');
        }

        int inForce(int day) {
            int found = NONE;
            for (int i = 0; i < orderCount; i++) {
                if (days[i] <= day && (found == NONE || days[i] >= days[found])) {
                    found = i;
                }
            }
            return found;
        }

        int signOf(int order, int at) {
            return hasOrder(order) && at >= 0 && at < sizes[order] ? texts[order][at] : 0;
        }

        /** Where the ACT of a RULE stands: behind its colon, the one sign that each RULE has once. */
        int actOf(int order, int rule) {
            if (!hasOrder(order)) {
                return NONE;
            }
            int colons = 0;
            for (int at = 0; at < sizes[order]; at++) {
                if (texts[order][at] == ':') {
                    if (colons == rule) {
                        return at + 1;
                    }
                    colons++;
                }
            }
            return NONE;
        }

        int rulesSo(int order, int[] known, int[] levels, int minute) {
            if (!hasOrder(order)) {
                return 0;
            }
            int bits = 0, rule = 0, test = 0;
            boolean isSo = true;
            for (int at = 0; at < sizes[order]; at++) {
                int sign = texts[order][at];
                if (sign == '&' || sign == ':') {
                    int value = valueFor(order, test, known, levels, minute);
                    isSo &= isTestSo(order, signOf(order, test) == 'm' ? test + 1 : test + 2, value);
                    test = at + 1;
                }
                if (sign == ':' && isSo) {
                    bits |= 1 << rule;
                }
                if (sign == ';') {
                    rule++;
                    isSo = true;
                    test = at + 1;
                }
            }
            return bits;
        }

        private int valueFor(int order, int test, int[] known, int[] levels, int minute) {
            int gauge = signOf(order, test), node = signOf(order, test + 1) - 'a';
            if (gauge == 'm') {
                return minute;
            }
            if (node < 0 || node >= MOST_NODES) {
                return 0;
            }
            return gauge == 'g' ? known[node] : levels[node];
        }

        /** A value against the number behind the < or > that stands here. */
        private boolean isTestSo(int order, int compare, int value) {
            int number = 0;
            for (int i = 1; i <= MOST_FIGURES && isFigure(signOf(order, compare + i)); i++) {
                number = 10 * number + signOf(order, compare + i) - '0';
            }
            return signOf(order, compare) == '<' ? value < number : value > number;
        }
    }

    /** BLOCKS and HOUSES of a PLAN, and the least coal by which weights hold. */
    private static final class Plan {
        static final int HOUSES = 3, MOST_WEIGHTS = 200, NEVER = 1000000;
        private static final int MOST_BLOCKS = 8, SETS = 1 << HOUSES, UNSOLVED = -1;

        int blockCount;
        private final int[] needs = new int[MOST_BLOCKS];
        private final int[] gives = new int[HOUSES], coals = new int[HOUSES];
        private final int[] givenBy = new int[SETS], burntBy = new int[SETS];
        private final int[] least = new int[MOST_BLOCKS * SETS * (MOST_WEIGHTS + 1)];
        private boolean isPrepared;

        int addBlock(int need) {
            if (blockCount >= MOST_BLOCKS) {
                return FULL;
            }
            needs[blockCount] = need;
            blockCount++;
            isPrepared = false;
            return blockCount;
        }

        int dropBlocks() {
            int was = blockCount;
            blockCount = 0;
            isPrepared = false;
            return was;
        }

        void setHouse(int h, int given, int coal) {
            gives[h] = given;
            coals[h] = coal;
            isPrepared = false;
        }

        int coalFrom(int weights) {
            prepare();
            return leastCoal(0, 0, weights);
        }

        /** HOUSES LIT in a BLOCK of THE BEST, from weights that hold; NONE: no such BLOCK. */
        int litIn(int wanted, int weights) {
            if (wanted < 0 || wanted >= blockCount) {
                return NONE;
            }
            prepare();
            int lit = 0, left = weights;
            for (int b = 0; b <= wanted; b++) {
                int next = firstBest(b, lit, left);
                left = weightsBehind(b, lit & next, left);
                lit = next;
            }
            return lit;
        }

        /** With all HOUSES LIT at all times no BLOCK has more weights. */
        int firstFailure(int weights) {
            prepare();
            int left = weights;
            for (int b = 0; b < blockCount; b++) {
                left = weightsBehind(b, b == 0 ? 0 : SETS - 1, left);
                if (left < 0) {
                    return b;
                }
            }
            return NONE;
        }

        private void prepare() {
            if (isPrepared) {
                return;
            }
            for (int set = 0; set < SETS; set++) {
                givenBy[set] = sumOf(gives, set);
                burntBy[set] = sumOf(coals, set);
            }
            Arrays.fill(least, UNSOLVED);
            isPrepared = true;
        }

        private static int sumOf(int[] numbers, int set) {
            int sum = 0;
            for (int h = 0; h < HOUSES; h++) {
                if (hasBit(set, h)) {
                    sum += numbers[h];
                }
            }
            return sum;
        }

        private int weightsBehind(int block, int giving, int weights) {
            return Math.min(MOST_WEIGHTS, weights + givenBy[giving]) - needs[block];
        }

        /** Least coal from a BLOCK on, those of a set having been LIT ahead of it; goes as deep as there are BLOCKS. */
        private int leastCoal(int block, int ahead, int weights) {
            if (weights < 0) {
                return NEVER;
            }
            if (block >= blockCount) {
                return 0;
            }
            int at = (block * SETS + ahead) * (MOST_WEIGHTS + 1) + weights;
            if (least[at] == UNSOLVED) {
                int found = NEVER;
                for (int lit = 0; lit < SETS; lit++) {
                    found = Math.min(found, coalIfLit(block, ahead, lit, weights));
                }
                least[at] = found;
            }
            return least[at];
        }

        private int coalIfLit(int block, int ahead, int lit, int weights) {
            return burntBy[lit] + leastCoal(block + 1, lit, weightsBehind(block, ahead & lit, weights));
        }

        private int firstBest(int block, int ahead, int weights) {
            int due = leastCoal(block, ahead, weights);
            for (int lit = 0; lit < SETS; lit++) {
                if (coalIfLit(block, ahead, lit, weights) == due) {
                    return lit;
                }
            }
            return 0;
        }
    }
}
