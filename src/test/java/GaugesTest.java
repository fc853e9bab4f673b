/** Promises 25 to 28: rows of numbers, and what is known. */
final class GaugesTest {
    private static final int UNREAD = -10000007, STUCK = -10000008, NO_SUCH = -10000001;

    public static void main(String[] args) {
        rows();
        numbers();
        readings();
        Checks.end();
    }

    private static void rows() {
        PipeWorks x = new PipeWorks();
        Checks.due("25: no such row", x.row(4, 0), PipeWorks.UNKNOWN);
        Checks.due("25: unknown comes ahead of outside", x.row(-1, 21), PipeWorks.UNKNOWN);
        Checks.due("25: length below", x.row(0, -2), PipeWorks.OUTSIDE);
        Checks.due("25: length above", x.row(0, 21), PipeWorks.OUTSIDE);
        Checks.due("25: it was missing", x.row(0, 20), PipeWorks.NONE);
        Checks.due("25: how long it was", x.row(0, 0), 20);
        Checks.due("25: how long it was", x.row(0, -1), 0);
        Checks.due("25: it was missing", x.row(0, 3), PipeWorks.NONE);
        Checks.due("25: another row", x.row(3, 3), PipeWorks.NONE);
    }

    private static void numbers() {
        PipeWorks x = new PipeWorks();
        Checks.due("26: the row is missing", x.put(0, 0, 0), PipeWorks.UNKNOWN);
        Checks.due("27: the row is missing", x.none(0, 0), PipeWorks.UNKNOWN);
        x.row(0, 2);
        Checks.due("26: no such row", x.put(4, 0, 0), PipeWorks.UNKNOWN);
        Checks.due("26: the row ends ahead", x.put(0, 2, 0), PipeWorks.UNKNOWN);
        Checks.due("26: below", x.put(0, -1, 0), PipeWorks.UNKNOWN);
        Checks.due("26: unknown comes ahead of outside", x.put(0, 2, 1000001), PipeWorks.UNKNOWN);
        Checks.due("26: number below", x.put(0, 0, -1000001), PipeWorks.OUTSIDE);
        Checks.due("26: number above", x.put(0, 0, 1000001), PipeWorks.OUTSIDE);
        Checks.due("26: least", x.put(0, 0, -1000000), 1);
        Checks.due("26: most", x.put(0, 1, 1000000), 1);
        Checks.due("27: no such row", x.none(-1, 0), PipeWorks.UNKNOWN);
        Checks.due("27: the row ends ahead", x.none(0, 2), PipeWorks.UNKNOWN);
        Checks.due("27: below", x.none(0, -1), PipeWorks.UNKNOWN);
        Checks.due("27: none", x.none(0, 1), 1);
    }

    private static void readings() {
        PipeWorks x = new PipeWorks();
        Checks.due("28: no such node", x.read(0, 0), NO_SUCH);
        x.node(0, 0);
        x.node(0, 0);
        Checks.due("28: no such row", x.read(4, 0), NO_SUCH);
        Checks.due("28: no such node", x.read(0, 2), NO_SUCH);
        Checks.due("28: the row is missing", x.read(0, 0), UNREAD);
        x.row(0, 1);
        Checks.due("28: 0 at first", x.read(0, 0), 0);
        Checks.due("28: the row ends ahead", x.read(0, 1), UNREAD);
        x.row(0, 2);
        x.put(0, 1, 199);
        Checks.due("28: cut", x.read(0, 1), 1);
        x.put(0, 1, -199);
        Checks.due("28: cut towards 0", x.read(0, 1), -1);
        x.put(0, 1, -1000000);
        Checks.due("28: least", x.read(0, 1), -10000);
        Checks.due("16: known", x.ofNode(1, 8), -10000);
        x.none(0, 1);
        Checks.due("28: none", x.read(0, 1), STUCK);
        Checks.due("16: what was known stays", x.ofNode(1, 8), -10000);
        x.put(0, 1, 1000000);
        Checks.due("16: known only when read", x.ofNode(1, 8), -10000);
        Checks.due("28: most", x.read(0, 1), 10000);
        x.row(0, -1);
        Checks.due("28: missing again", x.read(0, 1), UNREAD);
        Checks.due("16: what was known stays", x.ofNode(1, 8), 10000);
        x.row(0, 2);
        x.none(0, 0);
        x.row(0, 2);
        Checks.due("25: all numbers are 0 again", x.read(0, 1), 0);
        Checks.due("25: none, too", x.read(0, 0), 0);
        Checks.due("16: another node's is its own", x.ofNode(0, 8), 0);
    }
}
