/** What README.md shows to a user: its example, and the words below its table of calls. */
public final class ReadmeTest {
    private static final Checks CHECKS = new Checks();

    public static void main(String[] args) {
        example();
        notes();
        CHECKS.end();
    }

    private static void example() {
        ProcessNetwork network = new ProcessNetwork();
        CHECKS.answer("process 0", network.set(0, 5, 1, 1), 0);
        CHECKS.answer("process 1", network.set(1, 5, 2, 1), 0);
        CHECKS.answer("process 2", network.set(2, 2, 0 | 1 << 3, 0), 0);
        CHECKS.answer("network.item(0, 9)", network.item(0, 9), 55);
        CHECKS.answer("network.length(0)", network.length(0), 40);
        CHECKS.answer("network.full()", network.full(), 3);
        CHECKS.answer("network.item(0, 40)", network.item(0, 40), ProcessNetwork.NO_ITEM);
        CHECKS.answer("network.length(8)", network.length(8), ProcessNetwork.BAD_PROCESS);
    }

    private static void notes() {
        ProcessNetwork n = new ProcessNetwork();
        n.set(0, Kind.SUM, 0, 0);
        CHECKS.stream("SUM of itself is empty", n, 0);
        n.set(1, Kind.DELAY, 1, 2);
        CHECKS.stream("DELAY of itself is full", n, 1, Checks.repeated(2, 40));
        n.set(2, Kind.COUNT, 0, 0);
        n.set(3, Kind.ODD, 2, 0);
        CHECKS.answer("ODD of COUNT 0", n.length(3), 20);
        n.set(4, Kind.LIST, 0, 1);
        n.set(5, Kind.MERGE, Kind.inputs(4, 2), 0);
        CHECKS.stream("the rest of COUNT 0 isn't given out", n, 5, 0, 1, 1, 2, 3, 3, 4, 5, 5, 6, 7, 7, 8, 9);
        n.exchange(2, 4);
        CHECKS.stream("ODD reads what stands at 2 now", n, 3, 1, 3, 5, 7, 9);
    }
}
