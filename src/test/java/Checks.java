/** Counts and prints the answers that are not the ones due. */
final class Checks {
    private int wrong = 0;

    void answer(String call, long got, long due) {
        if (got != due) {
            wrong++;
            System.out.println(call + " answered " + got + ", due is " + due);
        }
    }

    void answer(String call, boolean got, boolean due) {
        if (got != due) {
            wrong++;
            System.out.println(call + " answered " + got + ", due is " + due);
        }
    }

    /** The process has these items and none before, behind or between them. */
    void stream(String what, ProcessNetwork network, int process, int... due) {
        answer(what + ": length(" + process + ")", network.length(process), due.length);
        for (int i = 0; i < due.length; i++) {
            answer(what + ": item(" + process + ", " + i + ")", network.item(process, i), due[i]);
        }
        answer(what + ": item behind the last", network.item(process, due.length), ProcessNetwork.NO_ITEM);
    }

    void end() {
        System.exit(wrong > 0 ? 1 : 0);
    }

    static int[] counted(int from, int howMany) {
        int[] items = new int[howMany];
        for (int i = 0; i < howMany; i++) {
            items[i] = from + i;
        }
        return items;
    }

    static int[] repeated(int value, int howMany) {
        int[] items = new int[howMany];
        java.util.Arrays.fill(items, value);
        return items;
    }
}
