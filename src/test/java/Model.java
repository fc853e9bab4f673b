import java.util.ArrayList;
import java.util.Arrays;
import java.util.List;
import java.util.regex.Matcher;
import java.util.regex.Pattern;

/** The document once more, as naively as it can be said: no memory of earlier work, all sets tried. */
final class Model {
    private static final int NONE = -6, UNKNOWN = -1, OUTSIDE = -2, STATE = -3, FULL = -4, NO = -5;
    private static final String TEST = "(?:[gt][a-l][<>][0-9]{1,5}|m[<>][0-9]{1,5})";
    private static final String RULE = TEST + "(?:&" + TEST + ")*:(?:[LD][a-l]|[SO][a-r])";
    private static final Pattern TEXT = Pattern.compile(RULE + "(?:;" + RULE + ")*");

    /** height, district, head, known, strokes, stuck */
    private final List<int[]> nodes = new ArrayList<>();
    /** kind and its numbers; null: nothing */
    private final int[][] things = new int[12][];
    /** first, second, width */
    private final List<int[]> mains = new ArrayList<>();
    /** main, map, shut */
    private final List<int[]> valves = new ArrayList<>();
    private final Integer[][] rows = new Integer[4][];
    private final StringBuilder signs = new StringBuilder();
    private final List<String> texts = new ArrayList<>();
    private final List<Integer> days = new ArrayList<>();
    private final List<Integer> needs = new ArrayList<>();
    private final int[][] planned = new int[3][2];
    private final int[] terms = {1, 1, 1, 1};
    private int tick, near, sweeps, dryCount, spilt, coal;

    int node(int height, int district) {
        if (height < 0 || height > 200 || district < 0 || district > 3) return OUTSIDE;
        if (nodes.size() == 12) return FULL;
        nodes.add(new int[] {height, district, 10 * height, 0, 0, 0});
        return nodes.size() - 1;
    }

    private boolean no(List<?> list, int i) {
        return i < 0 || i >= list.size();
    }

    int main(int a, int b, int g) {
        if (no(nodes, a) || no(nodes, b) || a == b) return UNKNOWN;
        if (g < 1 || g > 1000) return OUTSIDE;
        if (mains.size() == 18) return FULL;
        for (int[] m : mains) if (m[0] == a && m[1] == b || m[0] == b && m[1] == a) return NO;
        mains.add(new int[] {a, b, g});
        return mains.size() - 1;
    }

    int valve(int main, int map) {
        if (no(mains, main) || no(mains, map)) return UNKNOWN;
        if (valves.size() == 12) return FULL;
        for (int[] v : valves) if (v[0] == main || v[1] == map) return NO;
        valves.add(new int[] {main, map, 0});
        return valves.size() - 1;
    }

    int turn(int valve) {
        if (no(valves, valve)) return UNKNOWN;
        return valves.get(valve)[2] = 1 - valves.get(valve)[2];
    }

    private boolean open(int main, int set) {
        for (int v = 0; v < valves.size(); v++) {
            if (valves.get(v)[0] == main && (valves.get(v)[2] == 1 || (set >> v & 1) == 1)) return false;
        }
        return true;
    }

    int ofMain(int main, int what) {
        if (no(mains, main)) return UNKNOWN;
        if (what == 0) return open(main, 0) ? 1 : 0;
        if (what == 1) {
            for (int[] v : valves) if (v[1] == main && v[2] == 1) return 0;
            return 1;
        }
        if (what == 2) return mains.get(main)[2];
        if (what == 3 || what == 4) return mains.get(main)[what - 3];
        if (what == 5) {
            for (int v = 0; v < valves.size(); v++) if (valves.get(v)[0] == main) return v;
            return NONE;
        }
        return OUTSIDE;
    }

    int wrong(int i) {
        List<Integer> found = new ArrayList<>();
        for (int v = 0; v < valves.size(); v++) if (valves.get(v)[0] != valves.get(v)[1]) found.add(v);
        return i == -1 ? found.size() : no(found, i) ? NONE : found.get(i);
    }

    int mend(int valve) {
        if (no(valves, valve)) return UNKNOWN;
        int[] mended = valves.get(valve);
        for (int[] v : valves) if (v != mended && v[1] == mended[0]) return NO;
        int was = mended[1];
        mended[1] = mended[0];
        return was;
    }

    private int hang(int node, boolean fits, int... thing) {
        if (no(nodes, node)) return UNKNOWN;
        if (!fits) return OUTSIDE;
        if (things[node] != null) return NO;
        things[node] = thing;
        return 1;
    }

    private boolean in(int v, int a, int b) {
        return a <= v && v <= b;
    }

    int draw(int node, int amount, int from, int to) {
        return hang(node, in(amount, 0, 1000) && from >= 0 && to <= 1440 && from <= to, 1, amount, from, to);
    }

    int lift(int node, int amount, int people, int from, int to) {
        boolean fits = in(amount, 0, 1000) && in(people, 0, 6) && from >= 0 && to <= 1440 && from <= to;
        return hang(node, fits, 2, amount, from, to, people);
    }

    int bridge(int node, int amount, int period, int phase, int length) {
        boolean fits = in(amount, 0, 1000) && in(period, 1, 720) && in(phase, 0, 720) && in(length, 0, 720);
        return hang(node, fits, 3, amount, period, phase, length);
    }

    int tower(int node, int weight, int room, int level) {
        return hang(node, in(weight, 0, 5000) && in(room, 1, 100000) && in(level, 0, room), 4, weight, room, level);
    }

    int house(int node, int weight, int lag, int burns) {
        return hang(node, in(weight, 0, 5000) && in(lag, 0, 120) && in(burns, 0, 100), 5, weight, lag, burns, 0, 0);
    }

    int leak(int node, int c, boolean burst) {
        return hang(node, in(c, 1, 1000), burst ? 7 : 6, c, 0);
    }

    int clear(int node) {
        if (no(nodes, node)) return UNKNOWN;
        if (things[node] == null) return NO;
        int kind = things[node][0];
        things[node] = null;
        return kind;
    }

    private int kind(int node) {
        return things[node] == null ? 0 : things[node][0];
    }

    private boolean source(int node) {
        int[] t = things[node];
        return kind(node) == 4 && t[3] > 0 || kind(node) == 5 && t[4] == 1 && tick - t[5] >= 4 * t[2];
    }

    private int pressure(int node) {
        return nodes.get(node)[2] - 10 * nodes.get(node)[0];
    }

    private int takes(int node) {
        int[] t = things[node];
        int minute = tick / 4, ofDay = minute % 1440;
        switch (kind(node)) {
            case 1: return t[2] <= ofDay && ofDay < t[3] ? t[1] : 0;
            case 2: return t[2] <= ofDay && ofDay < t[3] ? t[1] * ((t[4] + 3 * (ofDay / 60)) % 7) : 0;
            case 3: return (minute + t[3]) % t[2] < t[4] ? t[1] : 0;
            case 4: return t[3] == 0 ? 10 : 0;
            case 6: return t[1] * pressure(node) / 1000;
            case 7: return t[1] * pressure(node) / 1000 * 2;
            default: return 0;
        }
    }

    int ofNode(int node, int what) {
        if (no(nodes, node)) return UNKNOWN;
        int[] n = nodes.get(node), t = things[node];
        switch (what) {
            case 0: return kind(node);
            case 1: return n[0];
            case 2: return n[1];
            case 3: return takes(node);
            case 4: return source(node) ? 1 : 0;
            case 5: return kind(node) == 4 ? t[3] : 0;
            case 6: return kind(node) == 5 ? t[4] : kind(node) == 7 ? t[2] : 0;
            case 7: return n[4];
            case 8: return n[3];
            default: return OUTSIDE;
        }
    }

    int light(int node, boolean is) {
        if (no(nodes, node)) return UNKNOWN;
        if (kind(node) != 5) return STATE;
        int was = things[node][4];
        if (is && was == 0) things[node][5] = tick;
        things[node][4] = is ? 1 : 0;
        return was;
    }

    int found(int node) {
        if (no(nodes, node)) return UNKNOWN;
        if (kind(node) != 7) return STATE;
        int was = things[node][2];
        things[node][2] = 1;
        return 1 - was;
    }

    private int sweepAll() {
        for (int n = 0; n < nodes.size(); n++) {
            nodes.get(n)[2] = 10 * nodes.get(n)[0] + (source(n) ? things[n][1] : 0);
        }
        for (int sweep = 1; sweep <= 500; sweep++) {
            boolean settled = true;
            for (int n = 0; n < nodes.size(); n++) {
                if (source(n)) continue;
                long sum = -1000L * takes(n), widths = 0;
                for (int m = 0; m < mains.size(); m++) {
                    int[] main = mains.get(m);
                    if (!open(m, 0) || main[0] != n && main[1] != n) continue;
                    sum += (long) main[2] * nodes.get(main[0] == n ? main[1] : main[0])[2];
                    widths += main[2];
                }
                int ground = 10 * nodes.get(n)[0];
                int next = widths == 0 || sum / widths < ground ? ground : (int) (sum / widths);
                if (Math.abs(next - nodes.get(n)[2]) > near) settled = false;
                nodes.get(n)[2] = next;
            }
            if (settled) return sweep;
        }
        return NO;
    }

    int work() {
        int answer = sweepAll();
        sweeps = answer == NO ? 500 : answer;
        return answer;
    }

    int near(int v) {
        if (!in(v, 0, 100)) return OUTSIDE;
        int was = near;
        near = v;
        return was;
    }

    int press(int node, int what) {
        if (no(nodes, node)) return -1000001;
        if (!in(what, 0, 1)) return -1000002;
        return what == 0 ? nodes.get(node)[2] : pressure(node);
    }

    int flow(int main) {
        if (no(mains, main)) return -1000001;
        int[] m = mains.get(main);
        return open(main, 0) ? m[2] * (nodes.get(m[0])[2] - nodes.get(m[1])[2]) / 1000 : 0;
    }

    private int oneStep() {
        work();
        int count = 0;
        for (int n = 0; n < nodes.size(); n++) {
            int[] t = things[n];
            int got = takes(n);
            if (got > 0 && pressure(n) == 0) {
                count++;
                got = 0;
            }
            if (kind(n) >= 1 && kind(n) <= 3 && nodes.get(n)[5] == 0) nodes.get(n)[4] += got;
            if (kind(n) == 4) {
                int level = t[3];
                if (t[3] > 0) {
                    for (int m = 0; m < mains.size(); m++) {
                        if (mains.get(m)[0] == n) level -= flow(m);
                        if (mains.get(m)[1] == n) level += flow(m);
                    }
                } else {
                    level += got;
                }
                if (level > t[2]) spilt += level - t[2];
                t[3] = level < 0 ? 0 : level > t[2] ? t[2] : level;
            }
            if (kind(n) == 5 && t[4] == 1 && tick % 4 == 3) coal += t[3];
        }
        tick++;
        return count;
    }

    int step(int n) {
        if (!in(n, 1, 400)) return OUTSIDE;
        int count = 0;
        for (int i = 0; i < n; i++) count += oneStep();
        dryCount += count;
        return count;
    }

    int told(int what) {
        int[] all = {tick, nodes.size(), mains.size(), valves.size(), signs.length(), texts.size(), dryCount, spilt,
            coal, sweeps, needs.size()};
        return in(what, 0, 10) ? all[what] : OUTSIDE;
    }

    int row(int row, int length) {
        if (!in(row, 0, 3)) return UNKNOWN;
        if (!in(length, -1, 20)) return OUTSIDE;
        int was = rows[row] == null ? NONE : rows[row].length;
        rows[row] = null;
        if (length >= 0) {
            rows[row] = new Integer[length];
            Arrays.fill(rows[row], 0);
        }
        return was;
    }

    private boolean noNumber(int row, int i) {
        return !in(row, 0, 3) || rows[row] == null || !in(i, 0, rows[row].length - 1);
    }

    int put(int row, int i, int hundredths) {
        if (noNumber(row, i)) return UNKNOWN;
        if (!in(hundredths, -1000000, 1000000)) return OUTSIDE;
        rows[row][i] = hundredths;
        return 1;
    }

    int none(int row, int i) {
        if (noNumber(row, i)) return UNKNOWN;
        rows[row][i] = null;
        return 1;
    }

    int read(int row, int node) {
        if (no(nodes, node) || !in(row, 0, 3)) return -10000001;
        if (noNumber(row, node)) return -10000007;
        if (rows[row][node] == null) return -10000008;
        return nodes.get(node)[3] = rows[row][node] / 100;
    }

    int say(int sign) {
        if (!in(sign, 33, 126)) return OUTSIDE;
        if (signs.length() == 40) return FULL;
        signs.append((char) sign);
        return signs.length();
    }

    int wipe() {
        int was = signs.length();
        signs.setLength(0);
        return was;
    }

    int fault() {
        for (int end = 1; end <= signs.length(); end++) {
            Matcher m = TEXT.matcher(signs.substring(0, end));
            if (!m.matches() && !m.hitEnd()) return end - 1;
        }
        return TEXT.matcher(signs).matches() ? NONE : signs.length();
    }

    int order(int day) {
        if (!in(day, 0, 400)) return OUTSIDE;
        if (texts.size() == 6) return FULL;
        if (fault() != NONE) return NO;
        texts.add(signs.toString());
        days.add(day);
        wipe();
        return texts.size() - 1;
    }

    private boolean so(String test) {
        int node = test.charAt(1) - 'a';
        int value = tick / 4 % 1440;
        if (test.charAt(0) == 'g') value = no(nodes, node) ? 0 : nodes.get(node)[3];
        if (test.charAt(0) == 't') value = no(nodes, node) || kind(node) != 4 ? 0 : things[node][3];
        String[] parts = test.split("[<>]");
        int number = Integer.parseInt(parts[1]);
        return test.indexOf('<') >= 0 ? value < number : value > number;
    }

    int why(int order) {
        if (no(texts, order)) return UNKNOWN;
        String[] rules = texts.get(order).split(";");
        int bits = 0;
        for (int r = 0; r < rules.length; r++) {
            boolean all = true;
            for (String test : rules[r].split(":")[0].split("&")) all &= so(test);
            if (all) bits |= 1 << r;
        }
        return bits;
    }

    int does() {
        int best = -1;
        for (int i = 0; i < texts.size(); i++) {
            if (days.get(i) <= tick / 4 / 1440 && (best < 0 || days.get(i) >= days.get(best))) best = i;
        }
        if (best < 0) return STATE;
        int bits = why(best), done = 0;
        String[] rules = texts.get(best).split(";");
        for (int r = 0; r < rules.length; r++) {
            if ((bits >> r & 1) == 0) continue;
            String act = rules[r].split(":")[1];
            char what = act.charAt(0);
            int i = act.charAt(1) - 'a';
            if (what == 'L' || what == 'D') {
                if (!no(nodes, i) && kind(i) == 5 && light(i, what == 'L') != (what == 'L' ? 1 : 0)) done++;
            } else {
                for (int[] v : valves) {
                    int want = what == 'S' ? 1 : 0;
                    if (v[1] == i && v[2] != want) {
                        v[2] = want;
                        done++;
                    }
                }
            }
        }
        return done;
    }

    /** Whether a SOURCE is joined to a NODE, by a search from that NODE on. */
    private boolean fed(int node, int set) {
        List<Integer> queue = new ArrayList<>(List.of(node));
        for (int i = 0; i < queue.size(); i++) {
            if (source(queue.get(i))) return true;
            for (int m = 0; m < mains.size(); m++) {
                int[] main = mains.get(m);
                if (!open(m, set)) continue;
                if (main[0] == queue.get(i) && !queue.contains(main[1])) queue.add(main[1]);
                if (main[1] == queue.get(i) && !queue.contains(main[0])) queue.add(main[0]);
            }
        }
        return false;
    }

    int cut(int node) {
        if (no(nodes, node)) return UNKNOWN;
        int best = NONE;
        for (int set = 0; set < 1 << valves.size(); set++) {
            if (best != NONE && Integer.bitCount(set) >= Integer.bitCount(best)) continue;
            if (!fed(node, set)) best = set;
        }
        return best;
    }

    int dry(int node) {
        int set = cut(node), bits = 0;
        if (set < 0) return set;
        for (int n = 0; n < nodes.size(); n++) if (fed(n, 0) && !fed(n, set)) bits |= 1 << n;
        return bits;
    }

    int seek(int c, int i, int what) {
        if (!in(c, 1, 1000) || !in(what, 0, 1)) return OUTSIDE;
        List<int[]> rivals = new ArrayList<>();
        int[] heads = nodes.stream().mapToInt(n -> n[2]).toArray();
        for (int n = 0; n < nodes.size(); n++) {
            if (things[n] != null) continue;
            leak(n, c, true);
            sweepAll();
            clear(n);
            int misfit = 0;
            for (int k = 0; k < nodes.size(); k++) misfit += Math.abs(pressure(k) - nodes.get(k)[3]);
            rivals.add(new int[] {n, misfit});
        }
        for (int n = 0; n < nodes.size(); n++) nodes.get(n)[2] = heads[n];
        rivals.sort((a, b) -> a[1] != b[1] ? a[1] - b[1] : a[0] - b[0]);
        return no(rivals, i) ? NONE : rivals.get(i)[what];
    }

    int block(int need) {
        if (!in(need, 0, 100)) return OUTSIDE;
        if (needs.size() == 8) return FULL;
        needs.add(need);
        return needs.size();
    }

    int rest() {
        int was = needs.size();
        needs.clear();
        return was;
    }

    int plan(int h, int gives, int burns) {
        if (!in(h, 0, 2)) return UNKNOWN;
        if (!in(gives, 0, 100) || !in(burns, 0, 100)) return OUTSIDE;
        planned[h] = new int[] {gives, burns};
        return 1;
    }

    private int leastCoal;
    private int[] bestLit;
    private int furthest;

    /** Tries all rows in their order; only one with less coal than all ahead of it is kept. */
    private void tryFrom(int block, int[] lit, int weights, int burnt) {
        furthest = Math.max(furthest, block);
        if (burnt >= leastCoal) return;
        if (block == needs.size()) {
            leastCoal = burnt;
            bestLit = lit.clone();
            return;
        }
        for (int set = 0; set < 8; set++) {
            int given = 0, burns = 0;
            for (int h = 0; h < 3; h++) {
                if ((set >> h & 1) == 0) continue;
                burns += planned[h][1];
                if (block > 0 && (lit[block - 1] >> h & 1) == 1) given += planned[h][0];
            }
            int next = Math.min(200, weights + given) - needs.get(block);
            lit[block] = set;
            if (next >= 0) tryFrom(block + 1, lit, next, burnt + burns);
        }
    }

    int best(int weights, int i) {
        if (!in(weights, 0, 200)) return OUTSIDE;
        leastCoal = 1000000;
        tryFrom(0, new int[8], weights, 0);
        if (leastCoal == 1000000) return NO;
        return i == -1 ? leastCoal : no(needs, i) ? NONE : bestLit[i];
    }

    int fails(int weights) {
        if (!in(weights, 0, 200)) return OUTSIDE;
        leastCoal = 1000000;
        furthest = 0;
        tryFrom(0, new int[8], weights, 0);
        return furthest == needs.size() ? NONE : furthest;
    }

    int term(int district, int v) {
        if (!in(district, 0, 3)) return UNKNOWN;
        if (!in(v, 0, 100)) return OUTSIDE;
        int was = terms[district];
        terms[district] = v;
        return was;
    }

    int meter(int node, boolean stuck) {
        if (no(nodes, node)) return UNKNOWN;
        int was = nodes.get(node)[5];
        nodes.get(node)[5] = stuck ? 1 : 0;
        return was;
    }

    int pay(int node) {
        return no(nodes, node) ? UNKNOWN : nodes.get(node)[4] / 100 * terms[nodes.get(node)[1]];
    }
}
