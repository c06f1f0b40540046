/** Promise 8: find. */
public final class FindTest {
    public static void main(String[] args) {
        Checks checks = new Checks();
        ProcessNetwork n = new ProcessNetwork();
        n.set(0, Kind.COUNT, 0, 10);
        n.set(1, Kind.LIST, 0, 1);
        n.set(2, Kind.MERGE, Kind.inputs(1, 1), 0);
        n.set(3, Kind.SUM, 3, 0);
        n.set(4, Kind.COUNT, 0, -20);
        n.set(7, Kind.DELAY, 7, Integer.MIN_VALUE);
        for (int time = 0; time < 2; time++) {
            checks.answer("find the first item", n.find(0, 10), 0);
            checks.answer("find the last item", n.find(0, 49), 39);
            checks.answer("find what would be item 40", n.find(0, 50), ProcessNetwork.NO_ITEM);
            checks.answer("find what would be item -1", n.find(0, 9), ProcessNetwork.NO_ITEM);
            checks.answer("find the last of five", n.find(1, 9), 4);
            checks.answer("find nothing behind the end", n.find(1, 0), ProcessNetwork.NO_ITEM);
            checks.answer("find the first of two", n.find(2, 5), 4);
            checks.answer("find in nothing", n.find(3, 0), ProcessNetwork.NO_ITEM);
            checks.answer("find the value -3", n.find(4, -3), 17);
            checks.answer("find the first of forty", n.find(7, Integer.MIN_VALUE), 0);
        }
        int[] wrong = {-1, 8, Integer.MIN_VALUE, Integer.MAX_VALUE};
        for (int bad : wrong) {
            checks.answer("find(" + bad + ", 0)", n.find(bad, 0), ProcessNetwork.BAD_PROCESS);
        }
        // Items of an earlier, longer stream are gone.
        n.set(0, Kind.LIST, 0, 1);
        checks.answer("find in the new stream only", n.find(0, 20), ProcessNetwork.NO_ITEM);
        checks.end();
    }
}
