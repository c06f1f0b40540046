/** Promise 9: same. */
public final class SameTest {
    public static void main(String[] args) {
        Checks checks = new Checks();
        ProcessNetwork n = new ProcessNetwork();
        n.set(0, Kind.COUNT, 0, 1);
        n.set(1, Kind.DELAY, 2, 1);
        n.set(2, Kind.COUNT, 0, 2);
        n.set(3, Kind.ODD, 3, 0);
        n.set(4, Kind.SUM, 4, 0);
        n.set(6, Kind.DELAY, 5, 0);
        n.set(7, Kind.LIST, 0, 0);
        for (int time = 0; time < 2; time++) {
            checks.answer("made in two ways", n.same(0, 1), true);
            checks.answer("made in two ways, turned", n.same(1, 0), true);
            checks.answer("other items", n.same(0, 2), false);
            checks.answer("two of nothing", n.same(3, 4), true);
            checks.answer("nothing and something", n.same(3, 7), false);
            checks.answer("something and nothing", n.same(7, 3), false);
            checks.answer("five zeros and six", n.same(5, 6), false);
            checks.answer("six zeros and five", n.same(6, 5), false);
            checks.answer("five zeros twice", n.same(5, 7), true);
            for (int p = 0; p < 8; p++) {
                checks.answer("same(" + p + ", " + p + ")", n.same(p, p), true);
            }
        }
        lastItemCounts(checks);
        firstItemCounts(checks);
        int[] wrong = {-1, 8, Integer.MIN_VALUE, Integer.MAX_VALUE};
        for (int bad : wrong) {
            checks.answer("same(" + bad + ", 0)", n.same(bad, 0), false);
            checks.answer("same(0, " + bad + ")", n.same(0, bad), false);
            checks.answer("same(" + bad + ", same)", n.same(bad, bad), false);
        }
        checks.end();
    }

    // A MERGE of 0, 1, .. with 38, 38, .. makes another item 39 than one with 50, 50, ..
    private static void lastItemCounts(Checks checks) {
        ProcessNetwork n = new ProcessNetwork();
        n.set(0, Kind.COUNT, 0, 0);
        n.set(2, Kind.DELAY, 2, 38);
        n.set(3, Kind.DELAY, 3, 50);
        n.set(4, Kind.MERGE, Kind.inputs(0, 2), 0);
        n.set(5, Kind.MERGE, Kind.inputs(0, 3), 0);
        checks.answer("item 38 of both", n.item(4, 38) == n.item(5, 38), true);
        checks.answer("item 39 of both", n.item(4, 39) == n.item(5, 39), false);
        checks.answer("only the last item differs", n.same(4, 5), false);
    }

    private static void firstItemCounts(Checks checks) {
        ProcessNetwork n = new ProcessNetwork();
        n.set(1, Kind.DELAY, 0, 1);
        n.set(2, Kind.DELAY, 0, 2);
        checks.answer("only the first item differs", n.same(1, 2), false);
    }
}
