/** The boundary cases of promises 1 to 4: a test for each sentence. */
public final class EdgesOfChangesTest {
    private static final int MAX = Integer.MAX_VALUE;
    private static final int MIN = Integer.MIN_VALUE;
    private static final int[] ANY_STEPS = {MIN, MIN + 1, -40, -1, 0, 1, 39, 40, 41, MAX - 1, MAX};
    private static final Checks CHECKS = new Checks();

    public static void main(String[] args) {
        everyProcessIsListOfZero();
        setMakesANewOne();
        setTakesTheLowBitsOfInputs();
        setLooksAtNoOtherInputs();
        setTakesAnyNumber();
        setRefusesTheProcess();
        setRefusesTheKind();
        setTestsTheProcessFirst();
        setAnswersZero();
        fireTakesAnyNumberOfSteps();
        fireChangesNothing();
        fireRefusesTheProcess();
        fireAnswersZero();
        exchangeOfKindsInputsAndNumbers();
        exchangeOfAProcessWithItself();
        exchangeLeavesTheNumbersOfInputs();
        exchangeRefusesOneOrBoth();
        exchangeAnswersZero();
        CHECKS.end();
    }

    // "Every process is LIST 0 (five zeros)."
    private static void everyProcessIsListOfZero() {
        ProcessNetwork n = new ProcessNetwork();
        CHECKS.answer("new: none is full", n.full(), 0);
        for (int p = 0; p < 8; p++) {
            CHECKS.stream("new", n, p, 0, 0, 0, 0, 0);
            CHECKS.answer("new: item -1", n.item(p, -1), ProcessNetwork.NO_ITEM);
            CHECKS.answer("new: sum", n.sum(p), 0);
            CHECKS.answer("new: find 0", n.find(p, 0), 0);
            CHECKS.answer("new: find 1", n.find(p, 1), ProcessNetwork.NO_ITEM);
            CHECKS.answer("new: same", n.same(p, 7 - p), true);
        }
    }

    // "Makes a process a new one": nothing is left of a longer, a shorter or the same one
    private static void setMakesANewOne() {
        ProcessNetwork n = new ProcessNetwork();
        n.set(7, Kind.SUM, 0, 0);
        n.set(0, Kind.COUNT, 0, 1);
        n.set(0, Kind.LIST, 0, 1);
        CHECKS.stream("five after forty", n, 0, 1, 3, 5, 7, 9);
        CHECKS.stream("its reader", n, 7, 1, 4, 9, 16, 25);
        n.set(0, Kind.LIST, 0, 1);
        CHECKS.stream("the same one again", n, 0, 1, 3, 5, 7, 9);
        n.set(0, Kind.ODD, 0, 0);
        CHECKS.stream("nothing after five", n, 0);
        CHECKS.stream("its reader", n, 7);
        n.set(0, Kind.COUNT, 0, 2);
        CHECKS.stream("forty after nothing", n, 0, Checks.counted(2, 40));
        CHECKS.answer("its reader", n.length(7), 40);
    }

    // "x is inputs & 7, y is (inputs >> 3) & 7"
    private static void setTakesTheLowBitsOfInputs() {
        int[] high = {0, 1 << 6, 7 << 6, 1 << 30, MIN, -1 << 6};
        for (int bits : high) {
            for (int low = 0; low < 64; low++) {
                int x = low % 8;
                int y = low / 8;
                ProcessNetwork n = new ProcessNetwork();
                for (int p = 0; p < 8; p++) {
                    n.set(p, Kind.LIST, 0, p + 1);
                }
                int reader = x != 0 && y != 0 ? 0 : x != 1 && y != 1 ? 1 : 2;
                n.set(reader, Kind.TURN, bits | low, 0);
                CHECKS.answer("x of " + (bits | low), n.item(reader, 0), x + 1);
                CHECKS.answer("y of " + (bits | low), n.item(reader, 1), y + 1);
            }
        }
    }

    // "(looked at only where the kind has them)": x or y names the process itself, which would
    // leave it empty
    private static void setLooksAtNoOtherInputs() {
        int[] unused = {0, 7, 7 << 3, 63, -1, MIN, MAX};
        for (int inputs : unused) {
            ProcessNetwork n = new ProcessNetwork();
            n.set(7, Kind.COUNT, inputs, 1);
            CHECKS.stream("COUNT has no inputs", n, 7, Checks.counted(1, 40));
            n.set(7, Kind.LIST, inputs, 1);
            CHECKS.stream("LIST has no inputs", n, 7, 1, 3, 5, 7, 9);
            int onlyX = inputs & ~7 | 1;
            n.set(1, Kind.LIST, 0, 1);
            n.set(7, Kind.ODD, onlyX, 0);
            CHECKS.stream("ODD has no y", n, 7, 1, 3, 5, 7, 9);
            n.set(7, Kind.DELAY, onlyX, 0);
            CHECKS.stream("DELAY has no y", n, 7, 0, 1, 3, 5, 7, 9);
            n.set(7, Kind.SUM, onlyX, 0);
            CHECKS.stream("SUM has no y", n, 7, 1, 4, 9, 16, 25);
        }
    }

    // "int a": any int, and nothing to the kinds without a number
    private static void setTakesAnyNumber() {
        int[] any = {MIN, -1, 0, 1, MAX};
        for (int a : any) {
            ProcessNetwork n = new ProcessNetwork();
            n.set(0, Kind.COUNT, 0, a);
            CHECKS.stream("COUNT " + a, n, 0, Checks.counted(a, 40));
            n.set(0, Kind.LIST, 0, a);
            CHECKS.stream("LIST " + a, n, 0, a, 3 * a, 5 * a, 7 * a, 9 * a);
            n.set(0, Kind.DELAY, 1, a);
            CHECKS.stream("DELAY " + a, n, 0, a, 0, 0, 0, 0, 0);
            n.set(1, Kind.LIST, 0, 1);
            n.set(0, Kind.ADD, Kind.inputs(1, 1), a);
            CHECKS.stream("ADD has no number", n, 0, 2, 6, 10, 14, 18);
            n.set(0, Kind.TURN, Kind.inputs(1, 2), a);
            CHECKS.stream("TURN has no number", n, 0, 1, 0, 3, 0, 5, 0, 7, 0, 9, 0);
            n.set(0, Kind.ODD, 1, a);
            CHECKS.stream("ODD has no number", n, 0, 1, 3, 5, 7, 9);
            n.set(0, Kind.MERGE, Kind.inputs(1, 1), a);
            CHECKS.stream("MERGE has no number", n, 0, 1, 1, 3, 3, 5, 5, 7, 7, 9);
            n.set(0, Kind.SUM, 1, a);
            CHECKS.stream("SUM has no number", n, 0, 1, 4, 9, 16, 25);
        }
    }

    // "process not in 0 to 7: BAD_PROCESS; .. nothing changes then"
    private static void setRefusesTheProcess() {
        for (int bad : Checks.NOT_0_TO_7) {
            ProcessNetwork n = Checks.mixed();
            for (int kind = 0; kind < 8; kind++) {
                String call = "set(" + bad + ", " + kind + ", 9, 8)";
                CHECKS.answer(call, n.set(bad, kind, 9, 8), ProcessNetwork.BAD_PROCESS);
            }
            CHECKS.sameAnswers("after set(" + bad + ", ..)", n, Checks.mixed());
        }
    }

    // "kind not in 0 to 7: BAD_KIND; nothing changes then"
    private static void setRefusesTheKind() {
        for (int bad : Checks.NOT_0_TO_7) {
            ProcessNetwork n = Checks.mixed();
            for (int p = 0; p < 8; p++) {
                String call = "set(" + p + ", " + bad + ", 9, 8)";
                CHECKS.answer(call, n.set(p, bad, 9, 8), ProcessNetwork.BAD_KIND);
            }
            CHECKS.sameAnswers("after kind " + bad, n, Checks.mixed());
        }
    }

    // "Tests in this order"
    private static void setTestsTheProcessFirst() {
        for (int process : Checks.NOT_0_TO_7) {
            ProcessNetwork n = Checks.mixed();
            for (int kind : Checks.NOT_0_TO_7) {
                String call = "set(" + process + ", " + kind + ", 9, 8)";
                CHECKS.answer(call, n.set(process, kind, 9, 8), ProcessNetwork.BAD_PROCESS);
            }
            CHECKS.sameAnswers("after both wrong", n, Checks.mixed());
        }
    }

    // "Else answers 0."
    private static void setAnswersZero() {
        int[] any = {MIN, -1, 0, 63, MAX};
        for (int kind = 0; kind < 8; kind++) {
            ProcessNetwork n = new ProcessNetwork();
            for (int p = 0; p < 8; p++) {
                for (int value : any) {
                    String call = "set(" + p + ", " + kind + ", " + value + ", " + value + ")";
                    CHECKS.answer(call, n.set(p, kind, value, value), 0);
                }
            }
        }
    }

    // "Works up to n steps of a process, if it can (n any int)."
    private static void fireTakesAnyNumberOfSteps() {
        for (int steps : ANY_STEPS) {
            ProcessNetwork n = Checks.mixed();
            for (int p = 0; p < 8; p++) {
                CHECKS.answer("fire(" + p + ", " + steps + ")", n.fire(p, steps), 0);
            }
            CHECKS.sameAnswers("after fire of " + steps, n, Checks.mixed());
        }
    }

    // "Changes nothing that any other call answers.": also not what sets and exchanges make later
    private static void fireChangesNothing() {
        for (int steps : ANY_STEPS) {
            ProcessNetwork fired = Checks.mixed();
            ProcessNetwork quiet = Checks.mixed();
            for (int p = 0; p < 8; p++) {
                fired.fire(p, steps);
            }
            CHECKS.answer("exchange after fire", fired.exchange(1, 6), quiet.exchange(1, 6));
            fired.fire(6, steps);
            CHECKS.answer("set after fire", fired.set(7, 6, 8, 1), quiet.set(7, 6, 8, 1));
            fired.fire(7, steps);
            CHECKS.answer("set after fire", fired.set(8, 6, 8, 1), quiet.set(8, 6, 8, 1));
            CHECKS.sameAnswers("changed after fire of " + steps, fired, quiet);
        }
    }

    // "process not in 0 to 7: BAD_PROCESS."
    private static void fireRefusesTheProcess() {
        for (int bad : Checks.NOT_0_TO_7) {
            ProcessNetwork n = Checks.mixed();
            for (int steps : ANY_STEPS) {
                CHECKS.answer("fire(" + bad + ", " + steps + ")", n.fire(bad, steps), ProcessNetwork.BAD_PROCESS);
            }
            CHECKS.sameAnswers("after fire(" + bad + ", ..)", n, Checks.mixed());
        }
    }

    // "Else answers 0.": also where the process has no step to work
    private static void fireAnswersZero() {
        ProcessNetwork n = new ProcessNetwork();
        n.set(0, Kind.COUNT, 0, 0);
        n.set(1, Kind.ADD, Kind.inputs(1, 1), 0);
        CHECKS.answer("all is made", n.fire(0, 40), 0);
        CHECKS.answer("nothing is left", n.fire(0, 1), 0);
        CHECKS.answer("nothing can be made", n.fire(1, 1), 0);
        CHECKS.answer("the list has ended", n.fire(2, 6), 0);
    }

    // "Two processes exchange what they are (their kinds, inputs and numbers)": 0 and 7
    private static void exchangeOfKindsInputsAndNumbers() {
        ProcessNetwork n = new ProcessNetwork();
        n.set(1, Kind.LIST, 0, 1);
        n.set(2, Kind.LIST, 0, 2);
        n.set(3, Kind.LIST, 0, 3);
        n.set(0, Kind.DELAY, 1, 9);
        n.set(7, Kind.DELAY, 2, 8);
        n.exchange(0, 7);
        CHECKS.stream("numbers and x: 0", n, 0, 8, 2, 6, 10, 14, 18);
        CHECKS.stream("numbers and x: 7", n, 7, 9, 1, 3, 5, 7, 9);
        n.set(0, Kind.ADD, Kind.inputs(1, 2), 0);
        n.set(7, Kind.ADD, Kind.inputs(1, 3), 0);
        n.exchange(7, 0);
        CHECKS.stream("y: 0", n, 0, 4, 12, 20, 28, 36);
        CHECKS.stream("y: 7", n, 7, 3, 9, 15, 21, 27);
        n.set(0, Kind.SUM, 1, 0);
        n.set(7, Kind.ODD, 1, 0);
        n.exchange(0, 7);
        CHECKS.stream("kinds: 0", n, 0, 1, 3, 5, 7, 9);
        CHECKS.stream("kinds: 7", n, 7, 1, 4, 9, 16, 25);
        n.set(0, Kind.COUNT, 0, 1);
        n.exchange(0, 1);
        CHECKS.stream("a long one becomes short", n, 0, 1, 3, 5, 7, 9);
        CHECKS.stream("a short one becomes long", n, 1, Checks.counted(1, 40));
    }

    private static void exchangeOfAProcessWithItself() {
        ProcessNetwork n = Checks.mixed();
        for (int p = 0; p < 8; p++) {
            CHECKS.answer("exchange(" + p + ", " + p + ")", n.exchange(p, p), 0);
        }
        CHECKS.sameAnswers("after exchange of each with itself", n, Checks.mixed());
        n = Checks.mixed();
        for (int p = 1; p < 8; p++) {
            n.exchange(0, p);
        }
        for (int p = 7; p > 0; p--) {
            n.exchange(p, 0);
        }
        CHECKS.sameAnswers("after exchange there and back", n, Checks.mixed());
    }

    // "inputs still name the same numbers of processes": of the two, and of those that read them
    private static void exchangeLeavesTheNumbersOfInputs() {
        ProcessNetwork n = new ProcessNetwork();
        n.set(0, Kind.DELAY, 0, 1);
        n.set(7, Kind.ODD, 0, 0);
        CHECKS.stream("DELAY reads itself", n, 0, Checks.repeated(1, 40));
        n.exchange(0, 7);
        CHECKS.stream("the ODD of 0 reads itself now", n, 0);
        CHECKS.stream("the DELAY of 0 reads the ODD now", n, 7, 1);
        n.exchange(7, 0);
        CHECKS.stream("DELAY reads itself again", n, 0, Checks.repeated(1, 40));
        n.set(1, Kind.SUM, 2, 0);
        n.set(2, Kind.LIST, 0, 1);
        n.exchange(2, 3);
        CHECKS.stream("the SUM of 2 reads zeros now", n, 1, 0, 0, 0, 0, 0);
        n.exchange(1, 2);
        CHECKS.stream("the SUM of 2 reads itself now", n, 2);
        CHECKS.stream("zeros are at 1 now", n, 1, 0, 0, 0, 0, 0);
    }

    // "One not in 0 to 7: BAD_PROCESS, nothing changes."
    private static void exchangeRefusesOneOrBoth() {
        for (int bad : Checks.NOT_0_TO_7) {
            ProcessNetwork n = Checks.mixed();
            for (int p = 0; p < 8; p++) {
                CHECKS.answer("exchange(" + bad + ", " + p + ")", n.exchange(bad, p), ProcessNetwork.BAD_PROCESS);
                CHECKS.answer("exchange(" + p + ", " + bad + ")", n.exchange(p, bad), ProcessNetwork.BAD_PROCESS);
            }
            for (int other : Checks.NOT_0_TO_7) {
                CHECKS.answer("exchange(" + bad + ", " + other + ")", n.exchange(bad, other),
                        ProcessNetwork.BAD_PROCESS);
            }
            CHECKS.sameAnswers("after exchange with " + bad, n, Checks.mixed());
        }
    }

    // "Else answers 0."
    private static void exchangeAnswersZero() {
        ProcessNetwork n = Checks.mixed();
        for (int p = 0; p < 8; p++) {
            for (int q = 0; q < 8; q++) {
                CHECKS.answer("exchange(" + p + ", " + q + ")", n.exchange(p, q), 0);
            }
        }
    }
}
