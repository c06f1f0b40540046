/** The boundary cases of promises 5 to 10 and of the words ahead of them: a test for each sentence. */
public final class EdgesOfAskingTest {
    private static final int MAX = Integer.MAX_VALUE;
    private static final int MIN = Integer.MIN_VALUE;
    private static final Checks CHECKS = new Checks();

    public static void main(String[] args) {
        askingChangesNothing();
        refusedAskingChangesNothing();
        notAProcess();
        notAProcessIsTestedFirst();
        notAProcessIsNeverTheSame();
        lengthFromNothingToForty();
        itemFromZero();
        itemIfThereIsNone();
        itemsThatEqualAnswers();
        itemOfAnEmptyStream();
        sumWraps();
        sumOfEmptyAndFull();
        sumsThatEqualAnswers();
        findTheFirstIndex();
        findAtBothEnds();
        findNothing();
        findAnyInt();
        sameOfEmptyOnes();
        sameOfUnlikeLengths();
        sameOfUnlikeItems();
        sameOfAProcessAndItself();
        fullFromNoneToEight();
        fullNeedsAllForty();
        CHECKS.end();
    }

    // "The calls below change nothing that any call answers."
    private static void askingChangesNothing() {
        ProcessNetwork asked = Checks.mixed();
        for (int p = 0; p < 8; p++) {
            asked.length(p);
            asked.item(p, 39);
            asked.item(p, 0);
            asked.sum(p);
            asked.find(p, 1);
            asked.same(p, 7 - p);
            asked.full();
        }
        CHECKS.sameAnswers("after asking", asked, Checks.mixed());
        ProcessNetwork changed = Checks.mixed();
        ProcessNetwork due = Checks.mixed();
        changed.sum(6);
        changed.same(2, 5);
        CHECKS.answer("set after asking", changed.set(1, 0, 0, 2), due.set(1, 0, 0, 2));
        changed.full();
        CHECKS.answer("exchange after asking", changed.exchange(6, 2), due.exchange(6, 2));
        changed.item(2, 39);
        CHECKS.sameAnswers("asked between changes", changed, due);
    }

    private static void refusedAskingChangesNothing() {
        for (int bad : Checks.NOT_0_TO_7) {
            ProcessNetwork n = Checks.mixed();
            n.length(bad);
            n.item(bad, 0);
            n.sum(bad);
            n.find(bad, 0);
            for (int p = 0; p < 8; p++) {
                n.same(bad, p);
                n.same(p, bad);
                n.item(p, bad < 0 ? bad : MAX);
            }
            CHECKS.sameAnswers("after asking for " + bad, n, Checks.mixed());
        }
    }

    // "A process not in 0 to 7: BAD_PROCESS"
    private static void notAProcess() {
        for (int bad : Checks.NOT_0_TO_7) {
            ProcessNetwork n = Checks.mixed();
            CHECKS.answer("length(" + bad + ")", n.length(bad), ProcessNetwork.BAD_PROCESS);
            CHECKS.answer("item(" + bad + ", 0)", n.item(bad, 0), ProcessNetwork.BAD_PROCESS);
            CHECKS.answer("sum(" + bad + ")", n.sum(bad), ProcessNetwork.BAD_PROCESS);
            CHECKS.answer("find(" + bad + ", 3)", n.find(bad, 3), ProcessNetwork.BAD_PROCESS);
        }
    }

    // "tested first": ahead of an item that there is none of
    private static void notAProcessIsTestedFirst() {
        int[] any = {MIN, -1, 5, 40, 41, MAX};
        for (int bad : Checks.NOT_0_TO_7) {
            ProcessNetwork n = new ProcessNetwork();
            for (int value : any) {
                CHECKS.answer("item(" + bad + ", " + value + ")", n.item(bad, value), ProcessNetwork.BAD_PROCESS);
                CHECKS.answer("find(" + bad + ", " + value + ")", n.find(bad, value), ProcessNetwork.BAD_PROCESS);
            }
        }
    }

    // "(false for booleans)": also of two that are no process alike
    private static void notAProcessIsNeverTheSame() {
        for (int bad : Checks.NOT_0_TO_7) {
            ProcessNetwork n = new ProcessNetwork();
            for (int p = 0; p < 8; p++) {
                CHECKS.answer("same(" + bad + ", " + p + ")", n.same(bad, p), false);
                CHECKS.answer("same(" + p + ", " + bad + ")", n.same(p, bad), false);
            }
            for (int other : Checks.NOT_0_TO_7) {
                CHECKS.answer("same(" + bad + ", " + other + ")", n.same(bad, other), false);
            }
        }
    }

    // 0: empty, 1: one 1, 2: 1 3 5 7 9, 3: 39 ones, 4: 40 ones, 5: 2 and 39 ones, 6: 1 to 40
    private static ProcessNetwork fromEmptyToFull() {
        ProcessNetwork n = new ProcessNetwork();
        n.set(0, Kind.SUM, 0, 0);
        n.set(1, Kind.DELAY, 0, 1);
        n.set(2, Kind.LIST, 0, 1);
        n.set(3, Kind.ODD, 5, 0);
        n.set(4, Kind.DELAY, 4, 1);
        n.set(5, Kind.DELAY, 4, 2);
        n.set(6, Kind.COUNT, 0, 1);
        return n;
    }

    // "How many items the stream has (0 to 40)."
    private static void lengthFromNothingToForty() {
        ProcessNetwork n = fromEmptyToFull();
        int[] due = {0, 1, 5, 39, 40, 40, 40, 5};
        for (int p = 0; p < 8; p++) {
            CHECKS.answer("length(" + p + ")", n.length(p), due[p]);
        }
        n.set(7, Kind.DELAY, 3, 0);
        CHECKS.answer("39 and one more", n.length(7), 40);
        n.set(7, Kind.DELAY, 4, 0);
        CHECKS.answer("40 and no more", n.length(7), 40);
        n.set(7, Kind.DELAY, 0, 0);
        CHECKS.answer("none and one more", n.length(7), 1);
    }

    // "Item i, from 0"
    private static void itemFromZero() {
        ProcessNetwork n = fromEmptyToFull();
        CHECKS.answer("the first of one", n.item(1, 0), 1);
        CHECKS.answer("the first of five", n.item(2, 0), 1);
        CHECKS.answer("the last of five", n.item(2, 4), 9);
        CHECKS.answer("the last of 39", n.item(3, 38), 1);
        CHECKS.answer("the first of forty", n.item(5, 0), 2);
        CHECKS.answer("the last of forty", n.item(6, 39), 40);
        n.set(0, Kind.COUNT, 0, 5);
        n.set(7, Kind.COUNT, 0, 6);
        CHECKS.answer("the very first", n.item(0, 0), 5);
        CHECKS.answer("the very last", n.item(7, 39), 45);
    }

    // "NO_ITEM if there is none."
    private static void itemIfThereIsNone() {
        ProcessNetwork n = fromEmptyToFull();
        int[] lengths = {0, 1, 5, 39, 40, 40, 40, 5};
        for (int p = 0; p < 8; p++) {
            int[] none = {MIN, MIN + 40, -320, -40, -1, lengths[p], 40, 41, 320, 1 << 29, MAX - 40, MAX};
            for (int i : none) {
                CHECKS.answer("item(" + p + ", " + i + ")", n.item(p, i), ProcessNetwork.NO_ITEM);
            }
        }
    }

    // "(Items may equal these answers.)"
    private static void itemsThatEqualAnswers() {
        ProcessNetwork n = new ProcessNetwork();
        n.set(0, Kind.COUNT, 0, -3);
        n.set(1, Kind.DELAY, 1, -3);
        n.set(2, Kind.SUM, 1, 0);
        CHECKS.answer("an item -3", n.item(0, 0), -3);
        CHECKS.answer("an item -2", n.item(0, 1), -2);
        CHECKS.answer("an item -1", n.item(0, 2), -1);
        CHECKS.answer("forty times -3 are items", n.length(1), 40);
        CHECKS.answer("and are summed up", n.item(2, 39), -120);
        CHECKS.answer("and found", n.find(1, -3), 0);
        CHECKS.answer("-1 is found where it is", n.find(0, -1), 2);
    }

    private static void itemOfAnEmptyStream() {
        ProcessNetwork n = new ProcessNetwork();
        n.set(3, Kind.COUNT, 0, 7);
        n.set(3, Kind.ADD, Kind.inputs(3, 3), 7);
        for (int i = -1; i <= 40; i++) {
            CHECKS.answer("item(3, " + i + ") of nothing", n.item(3, i), ProcessNetwork.NO_ITEM);
        }
    }

    // "The sum (wrapping)"
    private static void sumWraps() {
        ProcessNetwork n = new ProcessNetwork();
        n.set(0, Kind.ODD, 0, 0);
        n.set(1, Kind.DELAY, 0, MAX);
        n.set(2, Kind.DELAY, 1, 1);
        CHECKS.answer("the greatest", n.sum(1), MAX);
        CHECKS.answer("one more than the greatest", n.sum(2), MIN);
        n.set(1, Kind.DELAY, 0, MIN);
        n.set(2, Kind.DELAY, 1, -1);
        CHECKS.answer("the smallest", n.sum(1), MIN);
        CHECKS.answer("one less than the smallest", n.sum(2), MAX);
        n.set(3, Kind.DELAY, 3, MAX);
        CHECKS.answer("forty of the greatest", n.sum(3), -40);
        n.set(3, Kind.DELAY, 3, MIN);
        CHECKS.answer("forty of the smallest", n.sum(3), 0);
    }

    // "of all items the stream has"
    private static void sumOfEmptyAndFull() {
        ProcessNetwork n = fromEmptyToFull();
        int[] due = {0, 1, 25, 39, 40, 41, 820, 0};
        for (int p = 0; p < 8; p++) {
            CHECKS.answer("sum(" + p + ")", n.sum(p), due[p]);
        }
        n.set(6, Kind.LIST, 0, 1);
        CHECKS.answer("sum of five after forty", n.sum(6), 25);
        n.set(6, Kind.SUM, 6, 0);
        CHECKS.answer("sum of nothing after five", n.sum(6), 0);
    }

    private static void sumsThatEqualAnswers() {
        ProcessNetwork n = new ProcessNetwork();
        n.set(0, Kind.ODD, 0, 0);
        for (int due = -3; due < 0; due++) {
            n.set(7, Kind.DELAY, 0, due);
            CHECKS.answer("a sum " + due, n.sum(7), due);
        }
    }

    // "The first index of an item with this value"
    private static void findTheFirstIndex() {
        ProcessNetwork n = fromEmptyToFull();
        CHECKS.answer("the first of forty ones", n.find(4, 1), 0);
        CHECKS.answer("the first of the ones behind 2", n.find(5, 1), 1);
        n.set(7, Kind.MERGE, Kind.inputs(2, 2), 0);
        CHECKS.answer("the first of two", n.find(7, 3), 2);
        CHECKS.answer("the only one", n.find(7, 9), 8);
    }

    private static void findAtBothEnds() {
        ProcessNetwork n = fromEmptyToFull();
        CHECKS.answer("the first of forty", n.find(6, 1), 0);
        CHECKS.answer("the last of forty", n.find(6, 40), 39);
        CHECKS.answer("the first of five", n.find(2, 1), 0);
        CHECKS.answer("the last of five", n.find(2, 9), 4);
        CHECKS.answer("the only item", n.find(1, 1), 0);
    }

    // "NO_ITEM."
    private static void findNothing() {
        ProcessNetwork n = fromEmptyToFull();
        CHECKS.answer("what would be item 40", n.find(6, 41), ProcessNetwork.NO_ITEM);
        CHECKS.answer("what would be item -1", n.find(6, 0), ProcessNetwork.NO_ITEM);
        CHECKS.answer("what would be item 5", n.find(2, 11), ProcessNetwork.NO_ITEM);
        CHECKS.answer("0 behind five", n.find(2, 0), ProcessNetwork.NO_ITEM);
        CHECKS.answer("0 in nothing", n.find(0, 0), ProcessNetwork.NO_ITEM);
        CHECKS.answer("NO_ITEM in nothing", n.find(0, -3), ProcessNetwork.NO_ITEM);
        n.set(6, Kind.LIST, 0, 100);
        CHECKS.answer("an item of an earlier stream", n.find(6, 30), ProcessNetwork.NO_ITEM);
    }

    private static void findAnyInt() {
        ProcessNetwork n = new ProcessNetwork();
        n.set(7, Kind.COUNT, 0, MAX);
        CHECKS.answer("the greatest", n.find(7, MAX), 0);
        CHECKS.answer("the smallest", n.find(7, MIN), 1);
        CHECKS.answer("the last", n.find(7, MIN + 38), 39);
        CHECKS.answer("the greatest isn't there", n.find(0, MAX), ProcessNetwork.NO_ITEM);
        CHECKS.answer("the smallest isn't there", n.find(0, MIN), ProcessNetwork.NO_ITEM);
    }

    // "Whether the two streams have the same items."
    private static void sameOfEmptyOnes() {
        ProcessNetwork n = fromEmptyToFull();
        n.set(7, Kind.COUNT, 0, 7);
        n.set(7, Kind.ODD, 7, 0);
        CHECKS.answer("two empty ones", n.same(0, 7), true);
        for (int p = 1; p < 7; p++) {
            CHECKS.answer("empty and " + p, n.same(0, p), false);
            CHECKS.answer(p + " and empty", n.same(p, 0), false);
        }
    }

    private static void sameOfUnlikeLengths() {
        ProcessNetwork n = fromEmptyToFull();
        CHECKS.answer("39 ones and 40", n.same(3, 4), false);
        CHECKS.answer("40 ones and 39", n.same(4, 3), false);
        CHECKS.answer("one 1 and 40", n.same(1, 4), false);
        CHECKS.answer("one 1 and five odd ones", n.same(1, 2), false);
        n.set(1, Kind.DELAY, 7, 0);
        CHECKS.answer("five zeros and six", n.same(7, 1), false);
        CHECKS.answer("six zeros and five", n.same(1, 7), false);
        n.set(7, Kind.DELAY, 3, 1);
        CHECKS.answer("40 ones made in two ways", n.same(4, 7), true);
        n.set(7, Kind.ODD, 2, 0);
        CHECKS.answer("five made in two ways", n.same(7, 2), true);
    }

    private static void sameOfUnlikeItems() {
        ProcessNetwork n = fromEmptyToFull();
        CHECKS.answer("only the first differs", n.same(4, 5), false);
        CHECKS.answer("only the first differs, turned", n.same(5, 4), false);
        n.set(0, Kind.DELAY, 0, 40);
        n.set(7, Kind.MERGE, Kind.inputs(6, 0), 0);
        CHECKS.answer("1 to 40 both", n.same(6, 7), true);
        n.set(0, Kind.DELAY, 0, 39);
        CHECKS.answer("item 38 is 39 still", n.item(7, 38), 39);
        CHECKS.answer("only the last differs", n.same(6, 7), false);
        CHECKS.answer("only the last differs, turned", n.same(7, 6), false);
        n.set(1, Kind.LIST, 0, 1 << 31);
        n.set(2, Kind.LIST, 0, 0);
        CHECKS.answer("only the highest bit differs", n.same(1, 2), false);
    }

    private static void sameOfAProcessAndItself() {
        ProcessNetwork n = fromEmptyToFull();
        for (int p = 0; p < 8; p++) {
            CHECKS.answer("same(" + p + ", " + p + ")", n.same(p, p), true);
        }
    }

    // "How many processes": from none to all eight
    private static void fullFromNoneToEight() {
        ProcessNetwork n = new ProcessNetwork();
        CHECKS.answer("none of eight", n.full(), 0);
        for (int p = 0; p < 8; p++) {
            n.set(p, Kind.COUNT, 0, p);
            CHECKS.answer("full up to " + p, n.full(), p + 1);
        }
        for (int p = 0; p < 8; p++) {
            n.set(p, Kind.SUM, p, 0);
            CHECKS.answer("empty up to " + p, n.full(), 7 - p);
        }
    }

    // "have all 40 items": 39 are not enough
    private static void fullNeedsAllForty() {
        ProcessNetwork n = fromEmptyToFull();
        CHECKS.answer("0, 1, 5 and 39 items are not full", n.full(), 3);
        n.set(7, Kind.DELAY, 3, 1);
        CHECKS.answer("39 and one more are", n.full(), 4);
        n.set(7, Kind.SUM, 3, 1);
        CHECKS.answer("39 sums are not", n.full(), 3);
    }
}
