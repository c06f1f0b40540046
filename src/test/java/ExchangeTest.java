/** Promise 4: exchange. */
public final class ExchangeTest {
    private static final Checks CHECKS = new Checks();

    public static void main(String[] args) {
        kindsInputsAndNumbers();
        inputsNameTheSameNumbers();
        withItself();
        wrongOnesChangeNothing();
        CHECKS.end();
    }

    private static void kindsInputsAndNumbers() {
        ProcessNetwork n = new ProcessNetwork();
        n.set(0, Kind.LIST, 0, 1);
        n.set(1, Kind.LIST, 0, 2);
        n.set(2, Kind.TURN, Kind.inputs(0, 1), 0);
        n.set(7, Kind.DELAY, 1, 5);
        CHECKS.answer("exchange(2, 7)", n.exchange(2, 7), 0);
        CHECKS.stream("2 is the DELAY now", n, 2, 5, 2, 6, 10, 14, 18);
        CHECKS.stream("7 is the TURN now", n, 7, 1, 2, 3, 6, 5, 10, 7, 14, 9, 18);
        CHECKS.answer("exchange(7, 2)", n.exchange(7, 2), 0);
        CHECKS.stream("2 is the TURN again", n, 2, 1, 2, 3, 6, 5, 10, 7, 14, 9, 18);
        CHECKS.stream("7 is the DELAY again", n, 7, 5, 2, 6, 10, 14, 18);
    }

    private static void inputsNameTheSameNumbers() {
        ProcessNetwork n = new ProcessNetwork();
        n.set(0, Kind.LIST, 0, 1);
        n.set(1, Kind.COUNT, 0, 10);
        n.set(2, Kind.SUM, 0, 0);
        n.exchange(0, 1);
        CHECKS.answer("the SUM reads what is at 0 now", n.item(2, 1), 21);
        CHECKS.answer("the SUM is full", n.length(2), 40);
        n.set(3, Kind.DELAY, 3, 4);
        CHECKS.stream("DELAY of itself", n, 3, Checks.repeated(4, 40));
        n.exchange(3, 4);
        CHECKS.stream("DELAY of 3, where a LIST 0 is now", n, 4, 4, 0, 0, 0, 0, 0);
        CHECKS.stream("LIST 0", n, 3, 0, 0, 0, 0, 0);
        n.set(5, Kind.DELAY, 6, 8);
        n.exchange(5, 6);
        CHECKS.stream("DELAY reads itself now", n, 6, Checks.repeated(8, 40));
    }

    private static void withItself() {
        ProcessNetwork n = new ProcessNetwork();
        n.set(5, Kind.COUNT, 0, 3);
        CHECKS.answer("exchange(5, 5)", n.exchange(5, 5), 0);
        CHECKS.stream("after exchange(5, 5)", n, 5, Checks.counted(3, 40));
    }

    private static void wrongOnesChangeNothing() {
        ProcessNetwork n = new ProcessNetwork();
        for (int p = 0; p < 8; p++) {
            n.set(p, Kind.LIST, 0, p);
        }
        int[] wrong = {-1, 8, Integer.MIN_VALUE, Integer.MAX_VALUE};
        for (int bad : wrong) {
            CHECKS.answer("exchange(" + bad + ", 1)", n.exchange(bad, 1), ProcessNetwork.BAD_PROCESS);
            CHECKS.answer("exchange(1, " + bad + ")", n.exchange(1, bad), ProcessNetwork.BAD_PROCESS);
            CHECKS.answer("exchange(" + bad + ", same)", n.exchange(bad, bad), ProcessNetwork.BAD_PROCESS);
        }
        for (int p = 0; p < 8; p++) {
            CHECKS.stream("after wrong ones", n, p, p, 3 * p, 5 * p, 7 * p, 9 * p);
        }
    }
}
