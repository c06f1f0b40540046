/** Promise 2: set. */
public final class SetTest {
    private static final Checks CHECKS = new Checks();

    public static void main(String[] args) {
        answers();
        wrongOnesChangeNothing();
        inputsAreMasked();
        readersSeeTheNewProcess();
        CHECKS.end();
    }

    private static void answers() {
        ProcessNetwork n = new ProcessNetwork();
        for (int kind = 0; kind < 8; kind++) {
            CHECKS.answer("set(7, " + kind + ", ..)", n.set(7, kind, -1, 5), 0);
        }
        CHECKS.answer("set(0, 0, ..)", n.set(0, 0, Integer.MIN_VALUE, Integer.MAX_VALUE), 0);
    }

    private static void wrongOnesChangeNothing() {
        ProcessNetwork n = new ProcessNetwork();
        n.set(0, Kind.COUNT, 0, 4);
        n.set(7, Kind.DELAY, 0, 9);
        int[] wrong = {-1, 8, 15, Integer.MIN_VALUE, Integer.MAX_VALUE};
        for (int bad : wrong) {
            CHECKS.answer("set, process " + bad, n.set(bad, 1, 0, 1), ProcessNetwork.BAD_PROCESS);
            CHECKS.answer("set, kind " + bad, n.set(0, bad, 0, 1), ProcessNetwork.BAD_KIND);
            CHECKS.answer("set, kind " + bad, n.set(7, bad, 7, 1), ProcessNetwork.BAD_KIND);
            CHECKS.answer("set, both " + bad, n.set(bad, bad, 0, 1), ProcessNetwork.BAD_PROCESS);
        }
        CHECKS.stream("after wrong ones", n, 0, Checks.counted(4, 40));
        CHECKS.answer("after wrong ones: item(7, 0)", n.item(7, 0), 9);
        CHECKS.answer("after wrong ones: item(7, 1)", n.item(7, 1), 4);
        for (int p = 1; p < 7; p++) {
            CHECKS.stream("after wrong ones", n, p, 0, 0, 0, 0, 0);
        }
    }

    private static void inputsAreMasked() {
        ProcessNetwork n = new ProcessNetwork();
        for (int p = 0; p < 8; p++) {
            n.set(p, Kind.LIST, 0, p + 1);
        }
        for (int p = 0; p < 7; p++) {
            n.set(7, Kind.TURN, Kind.inputs(p, 6 - p), 0);
            CHECKS.answer("x is " + p, n.item(7, 0), p + 1);
            CHECKS.answer("y is " + (6 - p), n.item(7, 1), 7 - p);
            n.set(7, Kind.TURN, Kind.inputs(p, 6 - p) - 64, 0);
            CHECKS.answer("negative inputs: x is " + p, n.item(7, 0), p + 1);
            CHECKS.answer("negative inputs: y is " + (6 - p), n.item(7, 1), 7 - p);
            n.set(7, Kind.TURN, Kind.inputs(p, 6 - p) + (1 << 30) + 64, 0);
            CHECKS.answer("great inputs: x is " + p, n.item(7, 0), p + 1);
            CHECKS.answer("great inputs: y is " + (6 - p), n.item(7, 1), 7 - p);
        }
        n.set(0, Kind.TURN, -1, 0);
        n.set(7, Kind.LIST, 0, 8);
        CHECKS.stream("inputs -1 are 7 and 7", n, 0, 8, 8, 24, 24, 40, 40, 56, 56, 72, 72);
        n.set(0, Kind.LIST, -1, 2);
        CHECKS.stream("LIST looks at no input", n, 0, 2, 6, 10, 14, 18);
        n.set(0, Kind.SUM, Kind.inputs(1, 0), 2);
        CHECKS.stream("SUM looks at no y", n, 0, 2, 8, 18, 32, 50);
    }

    private static void readersSeeTheNewProcess() {
        ProcessNetwork n = new ProcessNetwork();
        n.set(1, Kind.SUM, 0, 0);
        n.set(0, Kind.LIST, 0, 1);
        CHECKS.stream("SUM of LIST 1", n, 1, 1, 4, 9, 16, 25);
        n.set(0, Kind.LIST, 0, 2);
        CHECKS.stream("SUM of LIST 2", n, 1, 2, 8, 18, 32, 50);
        n.set(0, Kind.COUNT, 0, 0);
        CHECKS.answer("SUM of COUNT 0", n.item(1, 39), 780);
        n.set(0, Kind.ODD, 0, 0);
        CHECKS.stream("SUM of nothing", n, 1);
        n.set(0, Kind.LIST, 0, 2);
        n.set(1, Kind.MERGE, Kind.inputs(0, 2), 0);
        n.set(2, Kind.LIST, 0, 1);
        n.set(1, Kind.MERGE, Kind.inputs(0, 2), 0);
        CHECKS.stream("a MERGE set anew begins anew", n, 1, 1, 2, 3, 5, 6, 7, 9);
    }
}
