/** The section "Terms": what each kind makes, and when an item exists. */
public final class KindsTest {
    private static final Checks CHECKS = new Checks();

    public static void main(String[] args) {
        count();
        list();
        add();
        turn();
        odd();
        oddSeesOnlyMadeItems();
        delay();
        merge();
        mergeWaitsForBoth();
        mergeReadsAtTwoPaces();
        sum();
        loopsThatNeverBegin();
        loopsThatGoOn();
        loopsThatStop();
        longChainBackwards();
        CHECKS.end();
    }

    private static void count() {
        ProcessNetwork n = new ProcessNetwork();
        n.set(0, Kind.COUNT, 0, 7);
        CHECKS.stream("COUNT 7", n, 0, Checks.counted(7, 40));
        n.set(1, Kind.COUNT, 0, Integer.MAX_VALUE - 1);
        CHECKS.stream("COUNT wraps", n, 1, Checks.counted(Integer.MAX_VALUE - 1, 40));
        CHECKS.answer("wrapped item", n.item(1, 2), Integer.MIN_VALUE);
    }

    private static void list() {
        ProcessNetwork n = new ProcessNetwork();
        n.set(3, Kind.LIST, 0, 3);
        CHECKS.stream("LIST 3", n, 3, 3, 9, 15, 21, 27);
        n.set(3, Kind.LIST, 0, -2);
        CHECKS.stream("LIST -2", n, 3, -2, -6, -10, -14, -18);
        n.set(3, Kind.LIST, 0, 1 << 30);
        CHECKS.stream("LIST wraps", n, 3, 1 << 30, -(1 << 30), 1 << 30, -(1 << 30), 1 << 30);
    }

    private static void add() {
        ProcessNetwork n = new ProcessNetwork();
        n.set(1, Kind.COUNT, 0, 100);
        n.set(2, Kind.LIST, 0, 1);
        n.set(0, Kind.ADD, Kind.inputs(1, 2), 9);
        CHECKS.stream("ADD ends with y", n, 0, 101, 104, 107, 110, 113);
        n.set(0, Kind.ADD, Kind.inputs(2, 1), 9);
        CHECKS.stream("ADD ends with x", n, 0, 101, 104, 107, 110, 113);
        n.set(2, Kind.LIST, 0, Integer.MAX_VALUE);
        n.set(0, Kind.ADD, Kind.inputs(2, 2), 0);
        CHECKS.stream("ADD wraps", n, 0, -2, -6, -10, -14, -18);
    }

    private static void turn() {
        ProcessNetwork n = new ProcessNetwork();
        n.set(1, Kind.COUNT, 0, 100);
        n.set(2, Kind.LIST, 0, 1);
        n.set(0, Kind.TURN, Kind.inputs(2, 1), 0);
        CHECKS.stream("TURN ends when x is out", n, 0, 1, 100, 3, 101, 5, 102, 7, 103, 9, 104);
        n.set(0, Kind.TURN, Kind.inputs(1, 2), 0);
        CHECKS.stream("TURN ends when y is out", n, 0, 100, 1, 101, 3, 102, 5, 103, 7, 104, 9, 105);
        n.set(0, Kind.TURN, Kind.inputs(1, 1), 0);
        CHECKS.answer("TURN of two long ones", n.length(0), 40);
        CHECKS.answer("its item 38", n.item(0, 38), 119);
        CHECKS.answer("its item 39", n.item(0, 39), 119);
    }

    private static void odd() {
        ProcessNetwork n = new ProcessNetwork();
        n.set(1, Kind.COUNT, 0, -4);
        n.set(2, Kind.LIST, 0, 1);
        n.set(3, Kind.ADD, Kind.inputs(1, 2), 0);
        n.set(0, Kind.ODD, 3, 0);
        CHECKS.stream("ODD of -3 0 3 6 9", n, 0, -3, 3, 9);
        n.set(0, Kind.ODD, 2, 0);
        CHECKS.stream("ODD of odd ones", n, 0, 1, 3, 5, 7, 9);
        n.set(2, Kind.LIST, 0, 4);
        CHECKS.stream("ODD of even ones", n, 0);
        n.set(2, Kind.LIST, 0, -1);
        CHECKS.stream("ODD of negative ones", n, 0, -1, -3, -5, -7, -9);
    }

    private static void oddSeesOnlyMadeItems() {
        ProcessNetwork n = new ProcessNetwork();
        n.set(1, Kind.COUNT, 0, 0);
        n.set(0, Kind.ODD, 1, 0);
        CHECKS.answer("ODD of 40 counted items", n.length(0), 20);
        CHECKS.answer("its last item", n.item(0, 19), 39);
        n.set(1, Kind.COUNT, 0, 1);
        CHECKS.answer("ODD of 1 to 40", n.length(0), 20);
        n.set(2, Kind.DELAY, 0, 8);
        n.set(3, Kind.ODD, 2, 0);
        CHECKS.answer("ODD of a delayed ODD", n.length(3), 20);
        n.set(4, Kind.LIST, 0, 2);
        n.set(5, Kind.TURN, Kind.inputs(1, 2), 0);
        n.set(6, Kind.ODD, 5, 0);
        CHECKS.answer("TURN of 40 items and of 21", n.length(5), 40);
        CHECKS.answer("ODD of that", n.length(6), 29);
    }

    private static void delay() {
        ProcessNetwork n = new ProcessNetwork();
        n.set(2, Kind.LIST, 0, 1);
        n.set(0, Kind.DELAY, 2, -6);
        CHECKS.stream("DELAY of five", n, 0, -6, 1, 3, 5, 7, 9);
        n.set(2, Kind.COUNT, 0, 1);
        n.set(0, Kind.DELAY, 2, 0);
        CHECKS.stream("DELAY of forty", n, 0, Checks.counted(0, 40));
        n.set(2, Kind.SUM, 2, 0);
        CHECKS.stream("DELAY of nothing", n, 0, 0);
    }

    private static void merge() {
        ProcessNetwork n = new ProcessNetwork();
        n.set(1, Kind.LIST, 0, 1);
        n.set(2, Kind.LIST, 0, 2);
        n.set(0, Kind.MERGE, Kind.inputs(1, 2), 0);
        CHECKS.stream("MERGE x out first", n, 0, 1, 2, 3, 5, 6, 7, 9);
        n.set(0, Kind.MERGE, Kind.inputs(2, 1), 0);
        CHECKS.stream("MERGE y out first", n, 0, 1, 2, 3, 5, 6, 7, 9);
        n.set(1, Kind.LIST, 0, Integer.MIN_VALUE);
        n.set(2, Kind.LIST, 0, 1);
        CHECKS.stream("MERGE of far numbers", n, 0, Checks.repeated(Integer.MIN_VALUE, 5));
        n.set(1, Kind.LIST, 0, -1);
        n.set(2, Kind.LIST, 0, 0);
        CHECKS.stream("MERGE of falling ones", n, 0, -1, -3, -5, -7, -9);
        n.set(1, Kind.COUNT, 0, 0);
        n.set(2, Kind.COUNT, 0, 39);
        CHECKS.stream("MERGE of two long ones", n, 0, Checks.counted(0, 40));
        n.set(2, Kind.COUNT, 0, 40);
        CHECKS.stream("MERGE with one used up wholly", n, 0, Checks.counted(0, 40));
    }

    private static void mergeWaitsForBoth() {
        ProcessNetwork n = new ProcessNetwork();
        n.set(1, Kind.SUM, 1, 0);
        n.set(2, Kind.LIST, 0, 1);
        n.set(0, Kind.MERGE, Kind.inputs(1, 2), 0);
        CHECKS.stream("MERGE waits for x", n, 0);
        n.set(0, Kind.MERGE, Kind.inputs(2, 1), 0);
        CHECKS.stream("MERGE waits for y", n, 0);
        n.set(1, Kind.LIST, 0, 0);
        CHECKS.stream("MERGE doesn't give out the rest", n, 0, Checks.repeated(0, 5));
    }

    // Of equal items x's is used up: where it were y's, another number of items would follow.
    private static void mergeReadsAtTwoPaces() {
        ProcessNetwork n = new ProcessNetwork();
        n.set(1, Kind.LIST, 0, 1);
        n.set(0, Kind.MERGE, Kind.inputs(1, 1), 0);
        CHECKS.stream("MERGE of a stream with itself", n, 0, 1, 1, 3, 3, 5, 5, 7, 7, 9);
        n.set(2, Kind.DELAY, 2, 9);
        n.set(0, Kind.MERGE, Kind.inputs(1, 2), 0);
        CHECKS.stream("MERGE of equal ones uses x's up", n, 0, 1, 3, 5, 7, 9);
        n.set(0, Kind.MERGE, Kind.inputs(2, 1), 0);
        int[] nines = Checks.repeated(9, 40);
        System.arraycopy(new int[] {1, 3, 5, 7}, 0, nines, 0, 4);
        CHECKS.stream("MERGE of equal ones leaves y's", n, 0, nines);
    }

    private static void sum() {
        ProcessNetwork n = new ProcessNetwork();
        n.set(1, Kind.LIST, 0, 1);
        n.set(0, Kind.SUM, 1, 50);
        CHECKS.stream("SUM of five", n, 0, 1, 4, 9, 16, 25);
        n.set(1, Kind.LIST, 0, Integer.MAX_VALUE);
        CHECKS.stream("SUM wraps", n, 0, Integer.MAX_VALUE, -4,
                Integer.MAX_VALUE - 8, -16, Integer.MAX_VALUE - 24);
        n.set(1, Kind.COUNT, 0, 0);
        CHECKS.answer("SUM of forty", n.length(0), 40);
        CHECKS.answer("its last item", n.item(0, 39), 780);
    }

    private static void loopsThatNeverBegin() {
        int[] kinds = {Kind.ADD, Kind.TURN, Kind.ODD, Kind.MERGE, Kind.SUM};
        for (int kind : kinds) {
            ProcessNetwork n = new ProcessNetwork();
            n.set(4, kind, Kind.inputs(4, 4), 3);
            CHECKS.stream("kind " + kind + " of itself", n, 4);
            n.set(5, kind, Kind.inputs(6, 6), 3);
            n.set(6, kind, Kind.inputs(5, 5), 3);
            CHECKS.stream("kind " + kind + " of each other", n, 5);
            CHECKS.stream("kind " + kind + " of each other", n, 6);
        }
    }

    private static void loopsThatGoOn() {
        ProcessNetwork n = new ProcessNetwork();
        n.set(0, Kind.DELAY, 0, 6);
        CHECKS.stream("DELAY of itself", n, 0, Checks.repeated(6, 40));
        n.set(1, Kind.DELAY, 2, 1);
        n.set(2, Kind.SUM, 1, 0);
        CHECKS.answer("doubling", n.item(1, 31), 1 << 30);
        CHECKS.answer("doubling wraps", n.item(1, 32), Integer.MIN_VALUE);
        CHECKS.answer("doubling wraps to nothing", n.item(1, 33), 0);
        n.set(3, Kind.DELAY, 4, 1);
        n.set(4, Kind.DELAY, 5, 1);
        n.set(5, Kind.ADD, Kind.inputs(3, 4), 0);
        CHECKS.answer("Fibonacci", n.item(3, 9), 55);
        CHECKS.answer("Fibonacci is full", n.length(5), 40);
        n.set(6, Kind.DELAY, 7, 3);
        n.set(7, Kind.ODD, 6, 0);
        CHECKS.stream("ODD in a loop", n, 7, Checks.repeated(3, 40));
        n.set(7, Kind.TURN, Kind.inputs(6, 7), 0);
        CHECKS.stream("TURN that waits for its own last item", n, 7, Checks.repeated(3, 40));
    }

    private static void loopsThatStop() {
        ProcessNetwork n = new ProcessNetwork();
        n.set(0, Kind.DELAY, 1, 2);
        n.set(1, Kind.ODD, 0, 0);
        CHECKS.stream("ODD that waits for ever", n, 1);
        CHECKS.stream("DELAY of that", n, 0, 2);
        n.set(2, Kind.LIST, 0, 1);
        n.set(3, Kind.DELAY, 4, 4);
        n.set(4, Kind.MERGE, Kind.inputs(2, 3), 0);
        CHECKS.stream("MERGE in a loop", n, 4, 1, 3, 4, 1, 3, 4, 1, 3, 4, 1, 3, 4, 1, 3, 4, 1, 3, 4, 1, 3, 4, 1, 3, 4,
                1, 3, 4, 1, 3, 4, 1, 3, 4, 1, 3, 4, 1, 3, 4, 1);
        n.set(5, Kind.TURN, Kind.inputs(2, 5), 0);
        CHECKS.stream("TURN of a list and itself", n, 5, 1, 1, 3, 1, 5, 3, 7, 1, 9, 5);
        n.set(6, Kind.TURN, Kind.inputs(6, 2), 0);
        CHECKS.stream("TURN of itself first", n, 6);
        n.set(6, Kind.ADD, Kind.inputs(7, 2), 0);
        n.set(7, Kind.DELAY, 6, 10);
        CHECKS.stream("ADD in a loop ends with the list", n, 6, 11, 14, 19, 26, 35);
        CHECKS.stream("DELAY of that", n, 7, 10, 11, 14, 19, 26, 35);
    }

    // Each item must go once round all processes before the next one can come.
    private static void longChainBackwards() {
        ProcessNetwork n = new ProcessNetwork();
        n.set(7, Kind.DELAY, 0, 1);
        for (int p = 0; p < 7; p++) {
            n.set(p, Kind.SUM, p + 1, 0);
        }
        CHECKS.answer("ring against the order", n.full(), 8);
        for (int p = 0; p < 7; p++) {
            n.set(p + 1, Kind.ODD, p, 0);
        }
        n.set(0, Kind.DELAY, 7, 1);
        CHECKS.answer("ring in the order", n.full(), 8);
        for (int p = 0; p < 7; p++) {
            n.set(p, Kind.ODD, p + 1, 0);
        }
        n.set(7, Kind.DELAY, 0, 1);
        CHECKS.answer("ring of ODD against the order", n.full(), 8);
    }
}
