/** Counts and prints the answers that are not the ones due. */
final class Checks {
    /** Too small and too large by one and by much; some name a process if bits are cut off. */
    static final int[] NOT_0_TO_7 = {-1, 8, -2, 9, -8, 16, 64, 255, 256, 65536, -65536,
            Integer.MIN_VALUE, Integer.MIN_VALUE + 7, Integer.MAX_VALUE - 7, Integer.MAX_VALUE};

    private int wrong = 0;

    void answer(String call, long got, long due) {
        if (got != due) {
            wrong++;
            System.out.println(call + " answered " + got + ", due is " + due);
        }
    }

    void answer(String call, boolean got, boolean due) {
        if (got != due) {
            wrong++;
            System.out.println(call + " answered " + got + ", due is " + due);
        }
    }

    /** The process has these items and none before, behind or between them. */
    void stream(String what, ProcessNetwork network, int process, int... due) {
        answer(what + ": length(" + process + ")", network.length(process), due.length);
        for (int i = 0; i < due.length; i++) {
            answer(what + ": item(" + process + ", " + i + ")", network.item(process, i), due[i]);
        }
        answer(what + ": item behind the last", network.item(process, due.length), ProcessNetwork.NO_ITEM);
    }

    /** Both answer every asking call alike. Takes 417 of the 512 calls that each object has. */
    void sameAnswers(String when, ProcessNetwork network, ProcessNetwork due) {
        answer(when + ": full()", network.full(), due.full());
        for (int p = 0; p < 8; p++) {
            answer(when + ": length(" + p + ")", network.length(p), due.length(p));
            answer(when + ": sum(" + p + ")", network.sum(p), due.sum(p));
            answer(when + ": find(" + p + ", 3)", network.find(p, 3), due.find(p, 3));
            for (int i = 0; i <= 40; i++) {
                answer(when + ": item(" + p + ", " + i + ")", network.item(p, i), due.item(p, i));
            }
            for (int q = 0; q < 8; q++) {
                answer(when + ": same(" + p + ", " + q + ")", network.same(p, q), due.same(p, q));
            }
        }
    }

    void end() {
        System.exit(wrong > 0 ? 1 : 0);
    }

    /** A network with every kind, a loop, and empty, short and full streams: made in 8 calls. */
    static ProcessNetwork mixed() {
        ProcessNetwork n = new ProcessNetwork();
        n.set(0, Kind.COUNT, 0, 3);
        n.set(1, Kind.LIST, 0, 3);
        n.set(2, Kind.ADD, Kind.inputs(0, 5), 0);
        n.set(3, Kind.TURN, Kind.inputs(1, 0), 0);
        n.set(4, Kind.ODD, 3, 0);
        n.set(5, Kind.DELAY, 2, -1);
        n.set(6, Kind.MERGE, Kind.inputs(1, 0), 0);
        n.set(7, Kind.SUM, 7, 0);
        return n;
    }

    static int[] counted(int from, int howMany) {
        int[] items = new int[howMany];
        for (int i = 0; i < howMany; i++) {
            items[i] = from + i;
        }
        return items;
    }

    static int[] repeated(int value, int howMany) {
        int[] items = new int[howMany];
        java.util.Arrays.fill(items, value);
        return items;
    }
}
