/** Promise 3: fire. */
public final class FireTest {
    private static final Checks CHECKS = new Checks();
    private static final int[] STEPS =
            {0, 1, 2, 3, 39, 40, 41, 1000, -1, Integer.MAX_VALUE, Integer.MIN_VALUE};

    public static void main(String[] args) {
        answers();
        changesNothing();
        CHECKS.end();
    }

    private static void answers() {
        ProcessNetwork n = new ProcessNetwork();
        int[] wrong = {-1, 8, Integer.MIN_VALUE, Integer.MAX_VALUE};
        for (int steps : STEPS) {
            CHECKS.answer("fire(0, " + steps + ")", n.fire(0, steps), 0);
            CHECKS.answer("fire(7, " + steps + ")", n.fire(7, steps), 0);
            for (int bad : wrong) {
                CHECKS.answer("fire(" + bad + ", " + steps + ")", n.fire(bad, steps), ProcessNetwork.BAD_PROCESS);
            }
        }
    }

    // The same network, fired between the sets of the one and never of the other. Each number of
    // sets has objects of its own: the comparison takes most of an object's 512 calls.
    private static void changesNothing() {
        for (int sets = 0; sets <= 8; sets++) {
            ProcessNetwork fired = new ProcessNetwork();
            ProcessNetwork quiet = new ProcessNetwork();
            for (int p = 0; p < sets; p++) {
                int inputs = Kind.inputs((p + 5) & 7, (p + 7) & 7);
                fired.fire(p, STEPS[p]);
                fired.set(p, p, inputs, 3 - p);
                quiet.set(p, p, inputs, 3 - p);
                fired.fire((p * 3) & 7, STEPS[p + 3]);
            }
            fired.exchange(6, 4);
            quiet.exchange(6, 4);
            fired.fire(4, 3);
            CHECKS.sameAnswers("fired between " + sets + " sets", fired, quiet);
        }
    }
}
