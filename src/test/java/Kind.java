/** The document's numbers of the kinds, and how two inputs are written as one number. */
final class Kind {
    static final int COUNT = 0;
    static final int LIST = 1;
    static final int ADD = 2;
    static final int TURN = 3;
    static final int ODD = 4;
    static final int DELAY = 5;
    static final int MERGE = 6;
    static final int SUM = 7;

    private Kind() {
    }

    static int inputs(int x, int y) {
        return x | y << 3;
    }
}
