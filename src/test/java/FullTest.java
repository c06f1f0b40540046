/** Promise 10: full. */
public final class FullTest {
    public static void main(String[] args) {
        Checks checks = new Checks();
        ProcessNetwork n = new ProcessNetwork();
        checks.answer("no process is full", n.full(), 0);
        for (int p = 7; p >= 0; p--) {
            n.set(p, Kind.COUNT, 0, p);
            checks.answer("full from " + p + " on", n.full(), 8 - p);
            checks.answer("and asked again", n.full(), 8 - p);
        }
        n.set(0, Kind.ODD, 1, 0);
        checks.answer("20 items are not full", n.full(), 7);
        n.set(0, Kind.SUM, 0, 0);
        n.set(1, Kind.DELAY, 0, 0);
        checks.answer("nothing and one item are not full", n.full(), 6);
        thirtyNineItems(checks);
        checks.end();
    }

    // ODD gives 20 items and 19; taking turns, they end with the 39th.
    private static void thirtyNineItems(Checks checks) {
        ProcessNetwork n = new ProcessNetwork();
        n.set(0, Kind.COUNT, 0, 1);
        n.set(1, Kind.ODD, 0, 0);
        n.set(2, Kind.COUNT, 0, 0);
        n.set(3, Kind.DELAY, 2, 0);
        n.set(4, Kind.ODD, 3, 0);
        n.set(5, Kind.TURN, Kind.inputs(1, 4), 0);
        checks.answer("19 odd ones of 0 0 1 .. 38", n.length(4), 19);
        checks.answer("20 and 19 in turn", n.length(5), 39);
        checks.answer("39 items are not full", n.full(), 3);
        n.set(5, Kind.TURN, Kind.inputs(1, 1), 0);
        checks.answer("40 items are", n.full(), 4);
    }
}
