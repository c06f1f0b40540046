/** Promise 5: length. */
public final class LengthTest {
    public static void main(String[] args) {
        Checks checks = new Checks();
        ProcessNetwork n = new ProcessNetwork();
        n.set(0, Kind.SUM, 0, 0);
        n.set(1, Kind.DELAY, 0, 1);
        n.set(7, Kind.COUNT, 0, 0);
        n.set(3, Kind.DELAY, 4, 0);
        n.set(5, Kind.DELAY, 7, 0);
        for (int time = 0; time < 2; time++) {
            checks.answer("length of nothing", n.length(0), 0);
            checks.answer("length of one", n.length(1), 1);
            checks.answer("length of five", n.length(2), 5);
            checks.answer("length of six", n.length(3), 6);
            checks.answer("length of a delayed full one", n.length(5), 40);
            checks.answer("length of a full one", n.length(7), 40);
        }
        int[] wrong = {-1, 8, Integer.MIN_VALUE, Integer.MAX_VALUE};
        for (int bad : wrong) {
            checks.answer("length(" + bad + ")", n.length(bad), ProcessNetwork.BAD_PROCESS);
        }
        checks.end();
    }
}
