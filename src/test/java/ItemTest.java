/** Promise 6: item. */
public final class ItemTest {
    public static void main(String[] args) {
        Checks checks = new Checks();
        ProcessNetwork n = new ProcessNetwork();
        n.set(0, Kind.COUNT, 0, -3);
        n.set(1, Kind.LIST, 0, 2);
        n.set(7, Kind.COUNT, 0, 100);
        for (int time = 0; time < 2; time++) {
            checks.answer("an item may equal NO_ITEM", n.item(0, 0), -3);
            checks.answer("an item may equal BAD_KIND", n.item(0, 1), -2);
            checks.answer("an item may equal BAD_PROCESS", n.item(0, 2), -1);
            checks.answer("item(0, 39)", n.item(0, 39), 36);
            checks.answer("item(0, 40)", n.item(0, 40), ProcessNetwork.NO_ITEM);
            checks.answer("item(7, 39)", n.item(7, 39), 139);
            checks.answer("item(7, 40)", n.item(7, 40), ProcessNetwork.NO_ITEM);
            checks.answer("item(1, 4)", n.item(1, 4), 18);
            checks.answer("item(1, 5)", n.item(1, 5), ProcessNetwork.NO_ITEM);
        }
        int[] none = {-1, -40, 40, 41, 320, Integer.MIN_VALUE, Integer.MAX_VALUE};
        for (int i : none) {
            for (int p = 0; p < 8; p++) {
                checks.answer("item(" + p + ", " + i + ")", n.item(p, i), ProcessNetwork.NO_ITEM);
            }
        }
        int[] wrong = {-1, 8, Integer.MIN_VALUE, Integer.MAX_VALUE};
        for (int bad : wrong) {
            checks.answer("item(" + bad + ", 0)", n.item(bad, 0), ProcessNetwork.BAD_PROCESS);
            checks.answer("item(" + bad + ", -1)", n.item(bad, -1), ProcessNetwork.BAD_PROCESS);
            checks.answer("item(" + bad + ", 40)", n.item(bad, 40), ProcessNetwork.BAD_PROCESS);
        }
        checks.end();
    }
}
