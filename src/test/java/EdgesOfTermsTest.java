/** The boundary cases of the sections "What it is" and "Terms": a test for each sentence. */
public final class EdgesOfTermsTest {
    private static final int MAX = Integer.MAX_VALUE;
    private static final int MIN = Integer.MIN_VALUE;
    private static final Checks CHECKS = new Checks();

    public static void main(String[] args) {
        lastOfAllCalls();
        eightProcesses();
        inputsAreOthersOrItself();
        anyNumberOfReaders();
        itemsWrap();
        fortyItemsOfEachKind();
        fortyItemsForReaders();
        fortyItemsForOdd();
        fiveItemsOfList();
        addNeedsBoth();
        turnNeedsTheOneWhoseTurnItIs();
        turnNeedsAllItemsBefore();
        oddNeedsItemsToFindOne();
        oddOfNegativeItems();
        delayOfEmptyAndFull();
        mergeOfEqualItems();
        mergeNeedsBoth();
        mergeNeedsBothAtEveryItem();
        mergeNeedsBothForTheLastItem();
        mergeOfFarItems();
        sumOfEmpty();
        streamsThatWait();
        readersOfThemselves();
        readersOfThemselvesOverOthers();
        nothingComesBeforeItIsThere();
        howFarCannotBeSeen();
        CHECKS.end();
    }

    // "An object is used for at most 512 calls after it has been made"
    private static void lastOfAllCalls() {
        ProcessNetwork asked = afterSets(511);
        CHECKS.answer("call 512: item(0, 39)", asked.item(0, 39), 549);
        asked = afterSets(511);
        CHECKS.answer("call 512: sum(0)", asked.sum(0), 40 * 510 + 780);
        asked = afterSets(510);
        CHECKS.answer("call 511: exchange(0, 7)", asked.exchange(0, 7), 0);
        CHECKS.answer("call 512: find(7, 509)", asked.find(7, 509), 0);
        asked = afterSets(511);
        CHECKS.answer("call 512: set(0, 8, 0, 0)", asked.set(0, 8, 0, 0), ProcessNetwork.BAD_KIND);
    }

    private static ProcessNetwork afterSets(int howMany) {
        ProcessNetwork n = new ProcessNetwork();
        for (int a = 0; a < howMany; a++) {
            n.set(0, Kind.COUNT, 0, a);
        }
        return n;
    }

    // "There are eight PROCESSES (0 to 7)"
    private static void eightProcesses() {
        ProcessNetwork n = new ProcessNetwork();
        for (int p = 0; p < 8; p++) {
            CHECKS.answer("set(" + p + ", ..)", n.set(p, Kind.LIST, 0, p + 1), 0);
        }
        for (int p = 0; p < 8; p++) {
            CHECKS.answer("each is one of its own: " + p, n.item(p, 4), 9 * (p + 1));
        }
        CHECKS.answer("no process -1", n.set(-1, Kind.LIST, 0, 1), ProcessNetwork.BAD_PROCESS);
        CHECKS.answer("no process 8", n.set(8, Kind.LIST, 0, 1), ProcessNetwork.BAD_PROCESS);
    }

    // "up to two INPUTS (other processes or itself)"
    private static void inputsAreOthersOrItself() {
        for (int x = 0; x < 8; x++) {
            for (int y = 0; y < 8; y++) {
                ProcessNetwork n = new ProcessNetwork();
                for (int p = 0; p < 8; p++) {
                    n.set(p, Kind.DELAY, p, p + 1);
                }
                n.set(3, Kind.ADD, Kind.inputs(x, y), 0);
                boolean itself = x == 3 || y == 3;
                String what = "ADD " + x + " " + y + " at 3";
                CHECKS.stream(what, n, 3, Checks.repeated(x + y + 2, itself ? 0 : 40));
            }
        }
    }

    // "of which any number of processes may read, each at its own pace"
    private static void anyNumberOfReaders() {
        ProcessNetwork n = new ProcessNetwork();
        n.set(0, Kind.COUNT, 0, 1);
        n.set(1, Kind.ODD, 0, 0);
        n.set(2, Kind.SUM, 0, 0);
        n.set(3, Kind.DELAY, 0, 0);
        n.set(4, Kind.TURN, Kind.inputs(0, 0), 0);
        n.set(5, Kind.MERGE, Kind.inputs(0, 0), 0);
        n.set(6, Kind.ADD, Kind.inputs(0, 0), 0);
        n.set(7, Kind.MERGE, Kind.inputs(2, 0), 0);
        for (int i = 0; i < 40; i++) {
            CHECKS.answer("COUNT: item " + i, n.item(0, i), i + 1);
            CHECKS.answer("ODD: item " + i, n.item(1, i), i < 20 ? 2 * i + 1 : ProcessNetwork.NO_ITEM);
            CHECKS.answer("SUM: item " + i, n.item(2, i), (i + 1) * (i + 2) / 2);
            CHECKS.answer("DELAY: item " + i, n.item(3, i), i);
            CHECKS.answer("TURN: item " + i, n.item(4, i), i / 2 + 1);
            CHECKS.answer("MERGE: item " + i, n.item(5, i), i / 2 + 1);
            CHECKS.answer("ADD: item " + i, n.item(6, i), 2 * i + 2);
        }
        CHECKS.stream("MERGE of 1 3 6 10 .. with 1 2 3 ..", n, 7, 1, 1, 2, 3, 3, 4, 5, 6, 6, 7,
                8, 9, 10, 10, 11, 12, 13, 14, 15, 15, 16, 17, 18, 19, 20, 21, 21, 22, 23, 24,
                25, 26, 27, 28, 28, 29, 30, 31, 32, 33);
    }

    // "ITEMS (ints that wrap)"
    private static void itemsWrap() {
        ProcessNetwork n = new ProcessNetwork();
        n.set(0, Kind.COUNT, 0, MAX - 38);
        CHECKS.answer("COUNT: the last before the wrap", n.item(0, 38), MAX);
        CHECKS.answer("COUNT: the wrapped one", n.item(0, 39), MIN);
        n.set(1, Kind.LIST, 0, MIN);
        CHECKS.stream("LIST of the smallest", n, 1, MIN, MIN, MIN, MIN, MIN);
        n.set(1, Kind.LIST, 0, MAX);
        CHECKS.stream("LIST of the greatest", n, 1, MAX, MAX - 2, MAX - 4, MAX - 6, MAX - 8);
        n.set(1, Kind.LIST, 0, 1 << 29);
        CHECKS.stream("LIST wraps", n, 1, 1 << 29, 3 << 29, 5 << 29, 7 << 29, 1 << 29);
        n.set(2, Kind.DELAY, 2, MAX);
        n.set(3, Kind.DELAY, 3, 1);
        n.set(4, Kind.ADD, Kind.inputs(2, 3), 0);
        CHECKS.stream("ADD wraps upwards", n, 4, Checks.repeated(MIN, 40));
        n.set(2, Kind.DELAY, 2, MIN);
        n.set(3, Kind.DELAY, 3, -1);
        CHECKS.stream("ADD wraps downwards", n, 4, Checks.repeated(MAX, 40));
        n.set(5, Kind.SUM, 2, 0);
        CHECKS.answer("SUM before the wrap", n.item(5, 0), MIN);
        CHECKS.answer("SUM wraps", n.item(5, 1), 0);
        CHECKS.answer("SUM wraps on", n.item(5, 2), MIN);
        CHECKS.answer("SUM wraps to the end", n.item(5, 39), 0);
    }

    // "ONLY THE FIRST 40 ITEMS of a stream are ever made": with each kind but LIST
    private static void fortyItemsOfEachKind() {
        int[] kinds = {Kind.COUNT, Kind.ADD, Kind.TURN, Kind.ODD, Kind.DELAY, Kind.MERGE, Kind.SUM};
        for (int kind : kinds) {
            ProcessNetwork n = new ProcessNetwork();
            n.set(0, Kind.DELAY, 0, 1);
            n.set(1, Kind.DELAY, 1, 1);
            n.set(7, kind, Kind.inputs(0, 1), 1);
            n.set(6, Kind.LIST, 0, 1);
            String what = "kind " + kind;
            CHECKS.answer(what + ": length", n.length(7), 40);
            CHECKS.answer(what + ": has item 39", n.item(7, 39) != ProcessNetwork.NO_ITEM, true);
            CHECKS.answer(what + ": has item 40", n.item(7, 40), ProcessNetwork.NO_ITEM);
            CHECKS.answer(what + ": is full", n.full(), 3);
            CHECKS.answer(what + ": leaves its neighbour alone", n.sum(6), 25);
        }
    }

    // "ONLY THE FIRST 40 ITEMS of a stream are ever made": none more for those that read it
    private static void fortyItemsForReaders() {
        ProcessNetwork n = new ProcessNetwork();
        n.set(0, Kind.COUNT, 0, 0);
        n.set(1, Kind.ODD, 0, 0);
        n.set(2, Kind.TURN, Kind.inputs(1, 1), 0);
        n.set(3, Kind.DELAY, 1, 5);
        n.set(4, Kind.SUM, 1, 0);
        n.set(5, Kind.ADD, Kind.inputs(0, 1), 0);
        n.set(6, Kind.MERGE, Kind.inputs(1, 0), 0);
        n.set(7, Kind.ODD, 5, 0);
        CHECKS.answer("ODD of forty: its length", n.length(1), 20);
        CHECKS.answer("ODD of forty: its last", n.item(1, 19), 39);
        CHECKS.answer("TURN of twenty twice", n.length(2), 40);
        CHECKS.answer("DELAY of twenty", n.length(3), 21);
        CHECKS.answer("SUM of twenty", n.length(4), 20);
        CHECKS.answer("SUM of twenty: its last", n.item(4, 19), 400);
        CHECKS.answer("ADD of forty and twenty", n.length(5), 20);
        CHECKS.answer("MERGE of twenty and forty", n.length(6), 40);
        CHECKS.answer("MERGE of twenty and forty: its last", n.item(6, 39), 26);
        CHECKS.answer("ODD of twenty", n.length(7), 10);
    }

    // "ONLY THE FIRST 40 ITEMS of a stream are ever made", "an item of ODD needs as many items
    // of x as it takes to find it": the last that it can find is x's item 39.
    private static void fortyItemsForOdd() {
        ProcessNetwork n = new ProcessNetwork();
        n.set(0, Kind.COUNT, 0, 0);
        n.set(1, Kind.ADD, Kind.inputs(0, 0), 0);
        n.set(2, Kind.LIST, 0, 77);
        n.set(3, Kind.MERGE, Kind.inputs(1, 2), 0);
        n.set(4, Kind.ODD, 3, 0);
        CHECKS.answer("the odd one is item 39", n.item(3, 39), 77);
        CHECKS.stream("ODD finds item 39", n, 4, 77);
        n.set(2, Kind.LIST, 0, 79);
        CHECKS.answer("the odd one would be item 40", n.find(3, 79), ProcessNetwork.NO_ITEM);
        CHECKS.stream("ODD finds nothing in forty", n, 4);
        n.set(3, Kind.DELAY, 0, 0);
        CHECKS.answer("ODD of 0 0 1 .. 38", n.length(4), 19);
        n.set(3, Kind.DELAY, 0, 1);
        CHECKS.answer("ODD of 1 0 1 .. 38", n.length(4), 20);
    }

    // "the five items a, 3a, 5a, 7a, 9a"
    private static void fiveItemsOfList() {
        ProcessNetwork n = new ProcessNetwork();
        n.set(7, Kind.LIST, 0, 1);
        CHECKS.answer("LIST: item -1", n.item(7, -1), ProcessNetwork.NO_ITEM);
        CHECKS.answer("LIST: item 0", n.item(7, 0), 1);
        CHECKS.answer("LIST: item 4", n.item(7, 4), 9);
        CHECKS.answer("LIST: item 5", n.item(7, 5), ProcessNetwork.NO_ITEM);
        CHECKS.answer("LIST: length", n.length(7), 5);
    }

    // "item i of ADD needs item i of both"
    private static void addNeedsBoth() {
        ProcessNetwork n = lengthsFrom0To40();
        for (int x = 0; x < 6; x++) {
            for (int y = 0; y < 6; y++) {
                n.set(7, Kind.ADD, Kind.inputs(x, y), 0);
                int shorter = Math.min(n.length(x), n.length(y));
                CHECKS.answer("ADD " + x + " " + y, n.length(7), shorter);
            }
        }
    }

    // Processes 0 to 5 have 0, 1, 5, 39, 40 and 40 items; 6 and 7 are free. All but 2 and
    // item 0 of 5 are ones.
    private static ProcessNetwork lengthsFrom0To40() {
        ProcessNetwork n = new ProcessNetwork();
        n.set(0, Kind.SUM, 0, 0);
        n.set(1, Kind.DELAY, 0, 1);
        n.set(2, Kind.LIST, 0, 1);
        n.set(3, Kind.ODD, 5, 0);
        n.set(4, Kind.DELAY, 4, 1);
        n.set(5, Kind.DELAY, 4, 2);
        int[] due = {0, 1, 5, 39, 40, 40};
        for (int p = 0; p < 6; p++) {
            CHECKS.answer("built: length(" + p + ")", n.length(p), due[p]);
        }
        return n;
    }

    // "the items of TURN come one after the other, each needing the one of the input whose turn
    // it is"
    private static void turnNeedsTheOneWhoseTurnItIs() {
        ProcessNetwork n = lengthsFrom0To40();
        for (int x = 0; x < 6; x++) {
            for (int y = 0; y < 6; y++) {
                n.set(7, Kind.TURN, Kind.inputs(x, y), 0);
                int ofX = n.length(x);
                int ofY = n.length(y);
                int both = ofX <= ofY ? 2 * ofX : 2 * ofY + 1;
                CHECKS.answer("TURN " + x + " " + y, n.length(7), Math.min(both, 40));
            }
        }
    }

    // "and all items before it"
    private static void turnNeedsAllItemsBefore() {
        ProcessNetwork n = lengthsFrom0To40();
        n.set(7, Kind.TURN, Kind.inputs(0, 2), 0);
        CHECKS.stream("TURN of nothing and five", n, 7);
        n.set(7, Kind.TURN, Kind.inputs(2, 0), 0);
        CHECKS.stream("TURN of five and nothing", n, 7, 1);
        n.set(7, Kind.TURN, Kind.inputs(2, 1), 0);
        CHECKS.stream("TURN of five and one", n, 7, 1, 1, 3);
        n.set(7, Kind.TURN, Kind.inputs(1, 2), 0);
        CHECKS.stream("TURN of one and five", n, 7, 1, 1);
    }

    // "an item of ODD needs as many items of x as it takes to find it"
    private static void oddNeedsItemsToFindOne() {
        ProcessNetwork n = lengthsFrom0To40();
        n.set(7, Kind.ODD, 0, 0);
        CHECKS.stream("ODD of nothing", n, 7);
        n.set(7, Kind.ODD, 1, 0);
        CHECKS.stream("ODD of one odd item", n, 7, 1);
        n.set(1, Kind.DELAY, 0, 2);
        CHECKS.stream("ODD of one even item", n, 7);
        n.set(7, Kind.ODD, 5, 0);
        CHECKS.stream("ODD of an even item, then odd ones", n, 7, Checks.repeated(1, 39));
        n.set(7, Kind.ODD, 4, 0);
        CHECKS.stream("ODD of forty odd ones", n, 7, Checks.repeated(1, 40));
        n.set(4, Kind.DELAY, 4, 2);
        CHECKS.stream("ODD of forty even ones", n, 7);
    }

    // "those items of x that are odd"
    private static void oddOfNegativeItems() {
        ProcessNetwork n = new ProcessNetwork();
        n.set(0, Kind.COUNT, 0, MAX - 2);
        n.set(1, Kind.ODD, 0, 0);
        CHECKS.answer("odd", n.item(1, 0), MAX - 2);
        CHECKS.answer("the greatest is odd", n.item(1, 1), MAX);
        CHECKS.answer("the smallest is even, the next odd", n.item(1, 2), MIN + 1);
        n.set(0, Kind.COUNT, 0, -2);
        CHECKS.answer("-1 is odd", n.item(1, 0), -1);
        CHECKS.answer("0 is even", n.item(1, 1), 1);
    }

    // "a, then the items of x"
    private static void delayOfEmptyAndFull() {
        ProcessNetwork n = lengthsFrom0To40();
        n.set(7, Kind.DELAY, 0, MIN);
        CHECKS.stream("DELAY of nothing", n, 7, MIN);
        n.set(7, Kind.DELAY, 3, MAX);
        CHECKS.answer("DELAY of thirty-nine", n.length(7), 40);
        CHECKS.answer("DELAY of thirty-nine: its first", n.item(7, 0), MAX);
        CHECKS.answer("DELAY of thirty-nine: its last", n.item(7, 39), 1);
        n.set(6, Kind.COUNT, 0, 1);
        n.set(7, Kind.DELAY, 6, 0);
        CHECKS.stream("DELAY of forty leaves the last out", n, 7, Checks.counted(0, 40));
    }

    // "the smaller of both (of equal ones x's), which is used up by that"
    private static void mergeOfEqualItems() {
        ProcessNetwork n = lengthsFrom0To40();
        n.set(7, Kind.MERGE, Kind.inputs(1, 4), 0);
        CHECKS.stream("MERGE of 1 and 1 1 ..: x is used up", n, 7, 1);
        n.set(7, Kind.MERGE, Kind.inputs(4, 1), 0);
        CHECKS.stream("MERGE of 1 1 .. and 1: x goes on", n, 7, Checks.repeated(1, 40));
        n.set(7, Kind.MERGE, Kind.inputs(2, 2), 0);
        CHECKS.stream("MERGE of five with themselves", n, 7, 1, 1, 3, 3, 5, 5, 7, 7, 9);
    }

    // "as long as there is a next item of x and one of y", "one of MERGE needs a next item of
    // both inputs, also if only one is left to come"
    private static void mergeNeedsBoth() {
        ProcessNetwork n = lengthsFrom0To40();
        for (int p = 0; p < 6; p++) {
            n.set(7, Kind.MERGE, Kind.inputs(0, p), 0);
            CHECKS.stream("MERGE of nothing and " + p, n, 7);
            n.set(7, Kind.MERGE, Kind.inputs(p, 0), 0);
            CHECKS.stream("MERGE of " + p + " and nothing", n, 7);
        }
        n.set(6, Kind.LIST, 0, 2);
        n.set(7, Kind.MERGE, Kind.inputs(2, 6), 0);
        CHECKS.stream("10, 14 and 18 are left of y", n, 7, 1, 2, 3, 5, 6, 7, 9);
        n.set(7, Kind.MERGE, Kind.inputs(6, 2), 0);
        CHECKS.stream("10, 14 and 18 are left of x", n, 7, 1, 2, 3, 5, 6, 7, 9);
        n.set(6, Kind.DELAY, 0, 8);
        CHECKS.stream("9 alone is left of y", n, 7, 1, 3, 5, 7, 8);
        n.set(7, Kind.MERGE, Kind.inputs(2, 6), 0);
        CHECKS.stream("9 alone is left of x", n, 7, 1, 3, 5, 7, 8);
    }

    // The same words: whichever item of MERGE is the one after which an input has no next, it is
    // the last. The only item of one input is used up after none, one, .. of the other's.
    private static void mergeNeedsBothAtEveryItem() {
        for (int only = -1; only <= 41; only++) {
            ProcessNetwork n = new ProcessNetwork();
            n.set(0, Kind.ODD, 0, 0);
            n.set(1, Kind.DELAY, 0, only);
            n.set(2, Kind.COUNT, 0, 0);
            n.set(3, Kind.MERGE, Kind.inputs(2, 1), 0);
            n.set(4, Kind.MERGE, Kind.inputs(1, 2), 0);
            CHECKS.stream("MERGE of 0 1 .. and " + only, n, 3, countedUpTo(only + 1, only));
            CHECKS.stream("MERGE of " + only + " and 0 1 ..", n, 4, countedUpTo(Math.max(only, 0), only));
        }
    }

    // 0, 1, .. as many as are said and then the last one, but no more than forty in all.
    private static int[] countedUpTo(int howMany, int last) {
        if (howMany >= 40) {
            return Checks.counted(0, 40);
        }
        int[] items = Checks.counted(0, howMany + 1);
        items[howMany] = last;
        return items;
    }

    private static void mergeNeedsBothForTheLastItem() {
        ProcessNetwork n = lengthsFrom0To40();
        n.set(6, Kind.DELAY, 6, 9);
        n.set(7, Kind.MERGE, Kind.inputs(3, 6), 0);
        CHECKS.stream("39 items of x, then none", n, 7, Checks.repeated(1, 39));
        n.set(7, Kind.MERGE, Kind.inputs(6, 3), 0);
        CHECKS.stream("39 items of y, then none", n, 7, Checks.repeated(1, 39));
        n.set(7, Kind.MERGE, Kind.inputs(6, 4), 0);
        CHECKS.stream("40 items of y", n, 7, Checks.repeated(1, 40));
    }

    // "the smaller of both": also where their difference wraps around
    private static void mergeOfFarItems() {
        ProcessNetwork n = new ProcessNetwork();
        n.set(0, Kind.ODD, 0, 0);
        n.set(1, Kind.DELAY, 0, MIN);
        n.set(2, Kind.DELAY, 0, MAX);
        n.set(3, Kind.MERGE, Kind.inputs(1, 2), 0);
        CHECKS.stream("the smallest of x", n, 3, MIN);
        n.set(3, Kind.MERGE, Kind.inputs(2, 1), 0);
        CHECKS.stream("the smallest of y", n, 3, MIN);
        n.set(4, Kind.COUNT, 0, MAX);
        n.set(5, Kind.DELAY, 0, 0);
        n.set(3, Kind.MERGE, Kind.inputs(4, 5), 0);
        CHECKS.stream("0 comes before the greatest", n, 3, 0);
    }

    // "item i is the sum of x's items 0 to i"
    private static void sumOfEmpty() {
        ProcessNetwork n = lengthsFrom0To40();
        n.set(7, Kind.SUM, 0, 5);
        CHECKS.stream("SUM of nothing", n, 7);
        n.set(7, Kind.SUM, 1, 5);
        CHECKS.stream("SUM of one", n, 7, 1);
        n.set(7, Kind.SUM, 3, 5);
        CHECKS.stream("SUM of thirty-nine", n, 7, Checks.counted(1, 39));
        n.set(7, Kind.SUM, 4, 5);
        CHECKS.stream("SUM of forty", n, 7, Checks.counted(1, 40));
    }

    // "So a stream may end or wait for ever after some items; what it has are then its items."
    private static void streamsThatWait() {
        ProcessNetwork n = new ProcessNetwork();
        n.set(0, Kind.DELAY, 1, 4);
        n.set(1, Kind.ODD, 0, 0);
        CHECKS.stream("DELAY of an ODD that waits", n, 0, 4);
        CHECKS.stream("ODD that waits for itself", n, 1);
        n.set(2, Kind.LIST, 0, 1);
        n.set(3, Kind.TURN, Kind.inputs(2, 1), 0);
        CHECKS.stream("TURN that waits for y", n, 3, 1);
        CHECKS.answer("sum of what it has", n.sum(3), 1);
        n.set(4, Kind.ODD, 7, 0);
        CHECKS.answer("one that waits and one that ended, both empty", n.same(1, 4), true);
        n.set(5, Kind.MERGE, Kind.inputs(2, 6), 0);
        n.set(6, Kind.ODD, 5, 0);
        CHECKS.stream("MERGE that waits for its own item", n, 5);
        n.set(6, Kind.DELAY, 1, 6);
        CHECKS.stream("MERGE with one that ends", n, 5, 1, 3, 5, 6);
    }

    // "A process that reads itself, directly"
    private static void readersOfThemselves() {
        int[] waiting = {Kind.ADD, Kind.TURN, Kind.ODD, Kind.MERGE, Kind.SUM};
        for (int kind : waiting) {
            for (int p = 0; p < 8; p += 7) {
                ProcessNetwork n = new ProcessNetwork();
                CHECKS.answer("kind " + kind + " of itself", n.set(p, kind, Kind.inputs(p, p), 1), 0);
                CHECKS.stream("kind " + kind + " of itself", n, p);
            }
        }
        ProcessNetwork n = new ProcessNetwork();
        n.set(7, Kind.DELAY, 7, MIN);
        CHECKS.stream("DELAY of itself", n, 7, Checks.repeated(MIN, 40));
        n.set(0, Kind.COUNT, 0, 0);
        n.set(1, Kind.TURN, Kind.inputs(0, 1), 0);
        CHECKS.answer("TURN of COUNT and itself: length", n.length(1), 40);
        for (int i = 0; i < 40; i++) {
            int due = i % 2 == 0 ? i / 2 : n.item(1, i / 2);
            CHECKS.answer("TURN of COUNT and itself: item " + i, n.item(1, i), due);
        }
    }

    // "or over others, is allowed": over all eight, against the order of their numbers and with it
    private static void readersOfThemselvesOverOthers() {
        for (int step = 1; step < 8; step += 2) {
            ProcessNetwork ring = new ProcessNetwork();
            for (int p = 0; p < 8; p++) {
                ring.set(p, p == 0 ? Kind.DELAY : Kind.SUM, (p + step) & 7, 1);
            }
            CHECKS.answer("ring of SUM, step " + step, ring.full(), 8);
            CHECKS.answer("second item of the DELAY", ring.item(0, 1), 1);
            CHECKS.answer("third item of the DELAY", ring.item(0, 2), 8);
            ring.set(0, Kind.SUM, step, 1);
            CHECKS.answer("ring without DELAY, step " + step, ring.length(step), 0);
        }
    }

    // "nothing comes before it is there"
    private static void nothingComesBeforeItIsThere() {
        ProcessNetwork n = new ProcessNetwork();
        n.set(0, Kind.DELAY, 1, 2);
        n.set(1, Kind.MERGE, Kind.inputs(0, 2), 0);
        n.set(2, Kind.LIST, 0, 1);
        CHECKS.stream("MERGE with its own items, one later", n, 1,
                1, 2, 1, 2, 1, 2, 1, 2, 1, 2, 1, 2, 1, 2, 1, 2, 1, 2, 1, 2,
                1, 2, 1, 2, 1, 2, 1, 2, 1, 2, 1, 2, 1, 2, 1, 2, 1, 2, 1, 2);
        n.set(3, Kind.TURN, Kind.inputs(3, 2), 0);
        CHECKS.stream("TURN can't begin with its own item", n, 3);
        n.set(4, Kind.ADD, Kind.inputs(5, 2), 0);
        n.set(5, Kind.DELAY, 4, 0);
        CHECKS.stream("ADD with its own items, one later", n, 4, 1, 4, 9, 16, 25);
        n.set(5, Kind.SUM, 4, 0);
        CHECKS.stream("ADD with its own items, at once", n, 4);
        CHECKS.stream("SUM of that", n, 5);
    }

    // "HOW FAR the streams have really been worked out CAN'T BE SEEN."
    private static void howFarCannotBeSeen() {
        int[] steps = {MIN, -1, 0, 1, 2, 5, 6, 39, 40, 41, MAX};
        for (int n : steps) {
            for (int p = 0; p < 8; p++) {
                ProcessNetwork worked = Checks.mixed();
                worked.fire(p, n);
                worked.item(p, n);
                worked.set(1, Kind.LIST, 0, 5);
                worked.fire(7 - p, n);
                ProcessNetwork fresh = Checks.mixed();
                fresh.set(1, Kind.LIST, 0, 5);
                CHECKS.sameAnswers("fire(" + p + ", " + n + ")", worked, fresh);
            }
        }
    }
}
