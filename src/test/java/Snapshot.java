import java.util.ArrayList;
import java.util.List;

/** All that calls can tell of an object, in parts: asking for one may change what another would tell. */
final class Snapshot {
    private static final int PARTS = 6;

    private Snapshot() {
    }

    /** Two objects with one past, one of which was refused a call besides, tell the same. */
    static void same(String title, List<String> past, String refused) {
        for (int part = 0; part < PARTS; part++) {
            Calls calls = replay(past), twin = replay(past);
            twin.run(refused);
            String want = tellings(calls, part).toString(), got = tellings(twin, part).toString();
            Checks.due(title + ": changes nothing, part " + part, got.equals(want) ? 1 : 0, 1);
        }
    }

    private static Calls replay(List<String> past) {
        Calls calls = new Calls();
        for (String line : past) {
            calls.run(EdgesTest.callOf(line));
        }
        return calls;
    }

    private static List<Integer> tellings(Calls x, int part) {
        List<Integer> all = new ArrayList<>();
        int nodes = x.works.told(1), mains = x.works.told(2), valves = x.works.told(3);
        switch (part) {
            case 0:
                counts(x, all);
                nodes(x, all, nodes);
                break;
            case 1:
                mains(x, all, mains, valves);
                break;
            case 2:
                gauges(x, all, nodes);
                break;
            case 3:
                orders(x, all);
                break;
            case 4:
                plans(x, all);
                break;
            default:
                later(x, all, nodes);
                break;
        }
        return all;
    }

    private static void counts(Calls x, List<Integer> all) {
        for (int what = 0; what <= 10; what++) {
            all.add(x.run("told " + what));
        }
        all.add(x.run("near 0"));
        for (int district = 0; district < 4; district++) {
            all.add(x.run("term " + district + " 1"));
        }
    }

    private static void nodes(Calls x, List<Integer> all, int nodes) {
        for (int node = 0; node < nodes; node++) {
            for (int what = 0; what <= 8; what++) {
                all.add(x.run("ofNode " + node + " " + what));
            }
            all.add(x.run("press " + node + " 0"));
            all.add(x.run("meter " + node + " false"));
        }
    }

    private static void mains(Calls x, List<Integer> all, int mains, int valves) {
        for (int main = 0; main < mains; main++) {
            for (int what = 0; what <= 5; what++) {
                all.add(x.run("ofMain " + main + " " + what));
            }
            all.add(x.run("flow " + main));
        }
        for (int i = -1; i < valves; i++) {
            all.add(x.run("wrong " + i));
        }
        for (int valve = 0; valve < valves; valve++) {
            all.add(x.run("turn " + valve));
        }
    }

    private static void gauges(Calls x, List<Integer> all, int nodes) {
        for (int row = 0; row < 4; row++) {
            for (int node = 0; node < nodes; node++) {
                all.add(x.run("read " + row + " " + node));
            }
            all.add(x.run("row " + row + " -1"));
        }
    }

    private static void orders(Calls x, List<Integer> all) {
        all.add(x.run("fault"));
        all.add(x.run("does"));
        all.add(x.run("tell <9:La"));
        all.add(x.run("order 0"));
        for (int order = 0; order <= 6; order++) {
            all.add(x.run("why " + order));
        }
        all.add(x.run("does"));
        all.add(x.run("wipe"));
    }

    private static void plans(Calls x, List<Integer> all) {
        for (int i = -1; i <= 8; i++) {
            all.add(x.run("best 100 " + i));
        }
        all.add(x.run("fails 100"));
        all.add(x.run("rest"));
        all.add(x.run("block 0"));
        all.add(x.run("block 1"));
        for (int h = 0; h < 3; h++) {
            all.add(x.run("best 0 " + (h - 1)));
            all.add(x.run("plan " + h + " 0 0"));
        }
    }

    /** What comes of it: bursts, work and steps show what is held inside. */
    private static void later(Calls x, List<Integer> all, int nodes) {
        for (int node = 0; node < nodes; node++) {
            all.add(x.run("cut " + node));
            all.add(x.run("dry " + node));
            all.add(x.run("seek 70 " + node + " 0"));
            all.add(x.run("seek 70 " + node + " 1"));
        }
        all.add(x.run("work"));
        all.add(x.run("step 9"));
        for (int what = 6; what <= 9; what++) {
            all.add(x.run("told " + what));
        }
        for (int node = 0; node < nodes; node++) {
            for (int what = 3; what <= 7; what++) {
                all.add(x.run("ofNode " + node + " " + what));
            }
            all.add(x.run("press " + node + " 1"));
            all.add(x.run("pay " + node));
        }
    }
}
