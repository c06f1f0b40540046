/** Promise 1: a new object. */
public final class NewObjectTest {
    public static void main(String[] args) {
        Checks checks = new Checks();
        ProcessNetwork n = new ProcessNetwork();
        for (int p = 0; p < 8; p++) {
            checks.stream("new", n, p, 0, 0, 0, 0, 0);
            checks.answer("new: same(0, " + p + ")", n.same(0, p), true);
        }
        checks.answer("new: full()", n.full(), 0);
        n.set(3, Kind.COUNT, 0, 1);
        ProcessNetwork other = new ProcessNetwork();
        checks.stream("another new one", other, 3, 0, 0, 0, 0, 0);
        checks.answer("the first keeps what it is", n.length(3), 40);
        checks.end();
    }
}
