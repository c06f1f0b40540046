/** Promise 3: fire. */
public final class FireTest {
    private static final Checks CHECKS = new Checks();
    private static final int[] STEPS =
            {0, 1, 2, 3, 39, 40, 41, 1000, -1, Integer.MAX_VALUE, Integer.MIN_VALUE};

    public static void main(String[] args) {
        answers();
        changesNothing();
        CHECKS.end();
    }

    private static void answers() {
        ProcessNetwork n = new ProcessNetwork();
        int[] wrong = {-1, 8, Integer.MIN_VALUE, Integer.MAX_VALUE};
        for (int steps : STEPS) {
            CHECKS.answer("fire(0, " + steps + ")", n.fire(0, steps), 0);
            CHECKS.answer("fire(7, " + steps + ")", n.fire(7, steps), 0);
            for (int bad : wrong) {
                CHECKS.answer("fire(" + bad + ", " + steps + ")", n.fire(bad, steps), ProcessNetwork.BAD_PROCESS);
            }
        }
    }

    // The same network, fired between the sets of the one and never of the other.
    private static void changesNothing() {
        ProcessNetwork fired = new ProcessNetwork();
        ProcessNetwork quiet = new ProcessNetwork();
        int[] kinds = {Kind.COUNT, Kind.LIST, Kind.ADD, Kind.TURN, Kind.ODD, Kind.DELAY, Kind.MERGE, Kind.SUM};
        for (int p = 0; p < 8; p++) {
            int inputs = Kind.inputs((p + 5) & 7, (p + 7) & 7);
            for (int steps : STEPS) {
                fired.fire(p, steps);
            }
            fired.set(p, kinds[p], inputs, 3 - p);
            quiet.set(p, kinds[p], inputs, 3 - p);
            fired.fire((p * 3) & 7, p);
            compare(fired, quiet, "after set " + p);
        }
        fired.fire(6, 2);
        fired.exchange(6, 4);
        quiet.exchange(6, 4);
        fired.fire(4, 3);
        compare(fired, quiet, "after exchange");
    }

    private static void compare(ProcessNetwork fired, ProcessNetwork quiet, String when) {
        CHECKS.answer(when + ": full()", fired.full(), quiet.full());
        for (int p = 0; p < 8; p++) {
            CHECKS.answer(when + ": length(" + p + ")", fired.length(p), quiet.length(p));
            CHECKS.answer(when + ": sum(" + p + ")", fired.sum(p), quiet.sum(p));
            for (int i = 0; i < 40; i++) {
                CHECKS.answer(when + ": item(" + p + ", " + i + ")", fired.item(p, i), quiet.item(p, i));
            }
        }
    }
}
