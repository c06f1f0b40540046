import java.util.ArrayList;
import java.util.List;
import java.util.Random;

/**
 * All promises at once: long runs of calls, each answer held against a model that is written
 * in another way. The seed is fixed, so that every run is the same.
 */
public final class ModelTest {
    private static final int OBJECTS = 600;
    private static final int CALLS = 512;

    private final Checks checks;
    private final Random random;
    private final ProcessNetwork network = new ProcessNetwork();
    private final int[][] processes = new int[8][];
    private List<List<Integer>> streams;

    private ModelTest(Checks checks, Random random) {
        this.checks = checks;
        this.random = random;
        for (int p = 0; p < 8; p++) {
            processes[p] = new int[] {Kind.LIST, 0, 0, 0};
        }
        streams = leastStreams();
    }

    public static void main(String[] args) {
        Checks checks = new Checks();
        Random random = new Random(20261115);
        for (int object = 0; object < OBJECTS; object++) {
            ModelTest run = new ModelTest(checks, random);
            for (int call = 0; call < CALLS; call++) {
                run.call();
            }
        }
        checks.end();
    }

    private void call() {
        int p = anyProcess();
        int q = anyProcess();
        switch (random.nextInt(12)) {
            case 0, 1, 2 -> set(p);
            case 3 -> exchange(p, q);
            case 4 -> checks.answer("fire", network.fire(p, random.nextInt()), good(p) ? 0 : -1);
            case 5 -> checks.answer("length", network.length(p), good(p) ? streams.get(p).size() : -1);
            case 6, 7 -> item(p, random.nextInt(44) - 2);
            case 8 -> checks.answer("sum", network.sum(p),
                    good(p) ? streams.get(p).stream().mapToInt(Integer::intValue).sum() : -1);
            case 9 -> find(p);
            case 10 -> checks.answer("same", network.same(p, q),
                    good(p) && good(q) && streams.get(p).equals(streams.get(q)));
            default -> checks.answer("full", network.full(), streams.stream().filter(s -> s.size() == 40).count());
        }
    }

    private int anyProcess() {
        return random.nextInt(30) == 0 ? random.nextInt(40) - 20 : random.nextInt(8);
    }

    private static boolean good(int p) {
        return p >= 0 && p <= 7;
    }

    private void set(int p) {
        int kind = random.nextInt(30) == 0 ? random.nextInt(40) - 20 : random.nextInt(8);
        int inputs = random.nextInt();
        int a = random.nextInt(10) == 0 ? random.nextInt() : random.nextInt(12) - 3;
        int due = !good(p) ? -1 : kind < 0 || kind > 7 ? -2 : 0;
        checks.answer("set", network.set(p, kind, inputs, a), due);
        if (due == 0) {
            processes[p] = new int[] {kind, Math.floorMod(inputs, 8), Math.floorMod(Math.floorDiv(inputs, 8), 8), a};
            streams = leastStreams();
        }
    }

    private void exchange(int p, int q) {
        checks.answer("exchange", network.exchange(p, q), good(p) && good(q) ? 0 : -1);
        if (good(p) && good(q)) {
            int[] kept = processes[p];
            processes[p] = processes[q];
            processes[q] = kept;
            streams = leastStreams();
        }
    }

    private void item(int p, int i) {
        int due = !good(p) ? -1 : i < 0 || i >= streams.get(p).size() ? -3 : streams.get(p).get(i);
        checks.answer("item", network.item(p, i), due);
    }

    private void find(int p) {
        int value = random.nextInt(60) - 5;
        if (good(p) && random.nextBoolean() && !streams.get(p).isEmpty()) {
            value = streams.get(p).get(random.nextInt(streams.get(p).size()));
        }
        int index = good(p) ? streams.get(p).indexOf(value) : 0;
        checks.answer("find", network.find(p, value), !good(p) ? -1 : index < 0 ? -3 : index);
    }

    // Whole streams from whole streams, from empty ones on, until nothing more comes of it.
    private List<List<Integer>> leastStreams() {
        List<List<Integer>> now = new ArrayList<>();
        for (int p = 0; p < 8; p++) {
            now.add(List.of());
        }
        while (true) {
            List<List<Integer>> next = new ArrayList<>();
            for (int[] process : processes) {
                List<Integer> stream = made(process[0], now.get(process[1]), now.get(process[2]), process[3]);
                next.add(List.copyOf(stream.subList(0, Math.min(40, stream.size()))));
            }
            if (next.equals(now)) {
                return now;
            }
            now = next;
        }
    }

    private static List<Integer> made(int kind, List<Integer> x, List<Integer> y, int a) {
        List<Integer> out = new ArrayList<>();
        switch (kind) {
            case Kind.COUNT -> {
                for (int i = 0; i < 40; i++) {
                    out.add(a + i);
                }
            }
            case Kind.LIST -> out.addAll(List.of(a, 3 * a, 5 * a, 7 * a, 9 * a));
            case Kind.ADD -> {
                for (int i = 0; i < Math.min(x.size(), y.size()); i++) {
                    out.add(x.get(i) + y.get(i));
                }
            }
            case Kind.TURN -> {
                for (int i = 0; i < x.size(); i++) {
                    out.add(x.get(i));
                    if (i >= y.size()) {
                        break;
                    }
                    out.add(y.get(i));
                }
            }
            case Kind.ODD -> x.stream().filter(v -> v % 2 != 0).forEach(out::add);
            case Kind.DELAY -> {
                out.add(a);
                out.addAll(x);
            }
            case Kind.MERGE -> {
                List<Integer> restOfX = new ArrayList<>(x);
                List<Integer> restOfY = new ArrayList<>(y);
                while (!restOfX.isEmpty() && !restOfY.isEmpty()) {
                    boolean takeX = restOfX.get(0).compareTo(restOfY.get(0)) <= 0;
                    out.add((takeX ? restOfX : restOfY).remove(0));
                }
            }
            default -> {
                int total = 0;
                for (int value : x) {
                    total += value;
                    out.add(total);
                }
            }
        }
        return out;
    }
}
