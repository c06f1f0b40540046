/** A network of eight processes that pass numbers on; README.md says how to use it. */
public final class ProcessNetwork {
    public static final int BAD_PROCESS = -1;
    public static final int BAD_KIND = -2;
    public static final int NO_ITEM = -3;

    private static final int COUNT = 0;
    private static final int LIST = 1;
    private static final int ADD = 2;
    private static final int TURN = 3;
    private static final int ODD = 4;
    private static final int DELAY = 5;
    private static final int MERGE = 6;
    private static final int SUM = 7;

    private static final int PROCESSES = 8;
    private static final int KINDS = 8;
    private static final int LIMIT = 40;
    private static final int ALL_ITEMS = 320;
    private static final int LIST_ITEMS = 5;

    // No process takes more than LIMIT steps (ODD's steps each use up one of x's items, the
    // others' each make one), and a round without any step means that no later one has any.
    private static final int ENOUGH_ROUNDS = 320;

    private final int[] kinds = new int[PROCESSES];
    private final int[] xs = new int[PROCESSES];
    private final int[] ys = new int[PROCESSES];
    private final int[] numbers = new int[PROCESSES];

    // The streams stand one after the other, LIMIT places for each.
    private final int[] items = new int[ALL_ITEMS];
    private final int[] made = new int[PROCESSES];
    private final int[] usedOfX = new int[PROCESSES];
    private final int[] usedOfY = new int[PROCESSES];

    public ProcessNetwork() {
        for (int p = 0; p < PROCESSES; p++) {
            kinds[p] = LIST;
        }
        workOutStreams();
    }

    public int set(int process, int kind, int inputs, int a) {
        if (!isProcess(process)) {
            return BAD_PROCESS;
        }
        if (kind < 0 || kind >= KINDS) {
            return BAD_KIND;
        }
        kinds[process] = kind;
        xs[process] = inputs & 7;
        ys[process] = (inputs >> 3) & 7;
        numbers[process] = a;
        workOutStreams();
        return 0;
    }

    // Every change of the network works all streams out to their ends, so that no process
    // ever has a step left to work here, whatever n is.
    public int fire(int process, int n) {
        return isProcess(process) ? 0 : BAD_PROCESS;
    }

    public int exchange(int p, int q) {
        if (!isProcess(p) || !isProcess(q)) {
            return BAD_PROCESS;
        }
        swap(kinds, p, q);
        swap(xs, p, q);
        swap(ys, p, q);
        swap(numbers, p, q);
        workOutStreams();
        return 0;
    }

    public int length(int process) {
        return isProcess(process) ? made[process] : BAD_PROCESS;
    }

    public int item(int process, int i) {
        if (!isProcess(process)) {
            return BAD_PROCESS;
        }
        return hasItem(process, i) ? itemAt(process, i) : NO_ITEM;
    }

    public int sum(int process) {
        if (!isProcess(process)) {
            return BAD_PROCESS;
        }
        int total = 0;
        for (int i = 0; i < made[process]; i++) {
            total += itemAt(process, i);
        }
        return total;
    }

    public int find(int process, int value) {
        if (!isProcess(process)) {
            return BAD_PROCESS;
        }
        for (int i = 0; i < made[process]; i++) {
            if (itemAt(process, i) == value) {
                return i;
            }
        }
        return NO_ITEM;
    }

    public boolean same(int p, int q) {
        if (!isProcess(p) || !isProcess(q)) {
            return false;
        }
        if (made[p] != made[q]) {
            return false;
        }
        for (int i = 0; i < made[p]; i++) {
            if (itemAt(p, i) != itemAt(q, i)) {
                return false;
            }
        }
        return true;
    }

    public int full() {
        int count = 0;
        for (int p = 0; p < PROCESSES; p++) {
            if (made[p] == LIMIT) {
                count++;
            }
        }
        return count;
    }

    private static boolean isProcess(int process) {
        return process >= 0 && process < PROCESSES;
    }

    private static void swap(int[] values, int p, int q) {
        int kept = values[p];
        values[p] = values[q];
        values[q] = kept;
    }

    private boolean hasItem(int p, int i) {
        return i >= 0 && i < made[p];
    }

    // Only for an item of which hasItem is true.
    private int itemAt(int p, int i) {
        return items[p * LIMIT + i];
    }

    private void workOutStreams() {
        for (int p = 0; p < PROCESSES; p++) {
            made[p] = 0;
            usedOfX[p] = 0;
            usedOfY[p] = 0;
        }
        for (int round = 0; round < ENOUGH_ROUNDS; round++) {
            for (int p = 0; p < PROCESSES; p++) {
                step(p);
            }
        }
    }

    private void step(int p) {
        if (made[p] >= LIMIT) {
            return;
        }
        switch (kinds[p]) {
            case COUNT:
                make(p, numbers[p] + made[p]);
                break;
            case LIST:
                stepList(p);
                break;
            case ADD:
                stepAdd(p);
                break;
            case TURN:
                stepTurn(p);
                break;
            case ODD:
                stepOdd(p);
                break;
            case DELAY:
                stepDelay(p);
                break;
            case MERGE:
                stepMerge(p);
                break;
            case SUM:
                stepSum(p);
                break;
            default:
                break;
        }
    }

    // Only while the stream has fewer than LIMIT items.
    private void make(int p, int value) {
        items[p * LIMIT + made[p]] = value;
        made[p]++;
    }

    private void stepList(int p) {
        int i = made[p];
        if (i < LIST_ITEMS) {
            make(p, numbers[p] * (2 * i + 1));
        }
    }

    private void stepAdd(int p) {
        int i = made[p];
        int x = xs[p];
        int y = ys[p];
        if (hasItem(x, i) && hasItem(y, i)) {
            int first = itemAt(x, i);
            int second = itemAt(y, i);
            make(p, first + second);
        }
    }

    private void stepTurn(int p) {
        int i = made[p] / 2;
        int source = made[p] % 2 == 0 ? xs[p] : ys[p];
        if (hasItem(source, i)) {
            int value = itemAt(source, i);
            make(p, value);
        }
    }

    private void stepOdd(int p) {
        int x = xs[p];
        int i = usedOfX[p];
        if (hasItem(x, i)) {
            int value = itemAt(x, i);
            usedOfX[p]++;
            if ((value & 1) == 1) {
                make(p, value);
            }
        }
    }

    private void stepDelay(int p) {
        int x = xs[p];
        int i = made[p] - 1;
        if (i < 0) {
            make(p, numbers[p]);
        } else if (hasItem(x, i)) {
            int value = itemAt(x, i);
            make(p, value);
        }
    }

    private void stepMerge(int p) {
        int x = xs[p];
        int y = ys[p];
        int i = usedOfX[p];
        int j = usedOfY[p];
        if (!hasItem(x, i) || !hasItem(y, j)) {
            return;
        }
        int first = itemAt(x, i);
        int second = itemAt(y, j);
        if (first <= second) {
            usedOfX[p]++;
            make(p, first);
        } else {
            usedOfY[p]++;
            make(p, second);
        }
    }

    private void stepSum(int p) {
        int x = xs[p];
        int i = made[p];
        if (hasItem(x, i)) {
            int before = i == 0 ? 0 : itemAt(p, i - 1);
            int value = itemAt(x, i);
            make(p, before + value);
        }
    }
}
