/** Promise 7: sum. */
public final class SumTest {
    public static void main(String[] args) {
        Checks checks = new Checks();
        ProcessNetwork n = new ProcessNetwork();
        n.set(0, Kind.COUNT, 0, 1);
        n.set(1, Kind.LIST, 0, -2);
        n.set(2, Kind.ODD, 2, 0);
        n.set(3, Kind.LIST, 0, Integer.MAX_VALUE);
        n.set(4, Kind.DELAY, 4, 1 << 27);
        n.set(7, Kind.DELAY, 2, 6);
        for (int time = 0; time < 2; time++) {
            checks.answer("sum of 1 to 40", n.sum(0), 820);
            checks.answer("sum of a list", n.sum(1), -50);
            checks.answer("sum of nothing", n.sum(2), 0);
            checks.answer("sum wraps", n.sum(3), Integer.MAX_VALUE * 25);
            checks.answer("sum wraps", n.sum(4), 1 << 30);
            checks.answer("sum of one", n.sum(7), 6);
        }
        int[] wrong = {-1, 8, Integer.MIN_VALUE, Integer.MAX_VALUE};
        for (int bad : wrong) {
            checks.answer("sum(" + bad + ")", n.sum(bad), ProcessNetwork.BAD_PROCESS);
        }
        checks.end();
    }
}
