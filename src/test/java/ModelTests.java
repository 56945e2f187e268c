import java.lang.reflect.Method;
import java.util.ArrayList;
import java.util.Arrays;
import java.util.List;
import java.util.Random;

/**
 * Long runs of calls on the program and on PlainWorkbench side by side: every answer must be the same, and from time
 * to time the whole visible state too. The numbers come from fixed seeds, so each run can be repeated.
 * Arguments: how many runs, and the first seed.
 */
public final class ModelTests {
    private static final int CALLS = 512;
    private static final int[] ODD = {-1, -2, 4, 9, 10, 41, 256, Integer.MIN_VALUE, Integer.MAX_VALUE};

    private final Random random;
    private final ComparatorNetworks program = new ComparatorNetworks();
    private final PlainWorkbench model = new PlainWorkbench();
    private final List<String> log = new ArrayList<>();
    private final int mostWires;
    private int calls = 0;
    private boolean wrong = false;

    private ModelTests(long seed) {
        random = new Random(seed);
        mostWires = 2 + random.nextInt(7);
    }

    public static void main(String[] args) throws Exception {
        int runs = args.length > 0 ? Integer.parseInt(args[0]) : 150;
        long first = args.length > 1 ? Long.parseLong(args[1]) : 1;
        int failures = 0;
        for (long seed = first; seed < first + runs && failures < 5; seed++) {
            ModelTests test = new ModelTests(seed);
            test.go();
            if (test.wrong) {
                failures++;
                System.out.println("seed " + seed + ":\n  " + String.join("\n  ", test.log));
            }
        }
        System.out.println(failures == 0 ? runs + " runs agree with the plain model" : "runs differ: " + failures);
        if (failures != 0) System.exit(1);
    }

    private void go() throws Exception {
        while (calls < CALLS && !wrong) {
            move();
        }
    }

    private long call(String name, int... args) throws Exception {
        if (calls >= CALLS || wrong) {
            return 0;
        }
        calls++;
        Class<?>[] types = new Class<?>[args.length];
        Arrays.fill(types, int.class);
        Object[] boxed = Arrays.stream(args).boxed().toArray();
        Method there = PlainWorkbench.class.getMethod(name, types);
        Method here = ComparatorNetworks.class.getMethod(name, types);
        long due = ((Number) there.invoke(model, boxed)).longValue();
        long got = ((Number) here.invoke(program, boxed)).longValue();
        log.add(name + Arrays.toString(args) + " answered " + got + ", due is " + due);
        wrong = got != due;
        return due;
    }

    private int odd() {
        return ODD[random.nextInt(ODD.length)];
    }

    private boolean seldom() {
        return random.nextInt(25) == 0;
    }

    private int below(int bound) {
        return seldom() ? odd() : random.nextInt(Math.max(1, bound));
    }

    private int net() {
        return seldom() ? odd() : random.nextInt(4);
    }

    private int wireCount() {
        if (seldom()) {
            return random.nextInt(12) - 1;
        }
        return random.nextInt(3) > 0 ? mostWires : 2 + random.nextInt(mostWires - 1);
    }

    private int wireOf(int network) {
        return below(Math.max(1, model.wires(network)));
    }

    private int otherWireOf(int network, int wire) {
        int other = wireOf(network);
        return other == wire && !seldom() ? (wire == 0 ? 1 : 0) : other;
    }

    private int positionOf(int network) {
        return seldom() ? model.size(network) : below(Math.max(1, model.size(network)));
    }

    private void move() throws Exception {
        int kind = random.nextInt(100);
        if (kind < 34) {
            edit();
        } else if (kind < 36) {
            readText();
        } else if (kind < 40) {
            runKeys();
        } else if (kind < 47) {
            useBlocks();
        } else if (kind < 52) {
            call("undo");
        } else if (kind < 62) {
            reshape();
        } else if (kind < 63) {
            look();
        } else {
            ask();
        }
    }

    private void edit() throws Exception {
        int network = net();
        switch (random.nextInt(9)) {
            case 0 -> call("reset", network, wireCount());
            case 1 -> call("build", network, wireCount(), below(4));
            case 2 -> call("remove", network, positionOf(network));
            case 3 -> {
                int i = wireOf(network);
                call("insert", network, positionOf(network), i, otherWireOf(network, i));
            }
            case 4 -> call("concatenate", net(), net(), network);
            case 5 -> call("beside", net(), net(), network);
            case 6 -> call("grow", network);
            default -> {
                int more = 1 + random.nextInt(random.nextInt(8) == 0 ? 42 : 6);
                for (int k = 0; k < more; k++) {
                    int i = wireOf(network);
                    call("add", network, i, otherWireOf(network, i));
                }
            }
        }
    }

    private void reshape() throws Exception {
        String[] names = {"prune", "reduce", "standardize", "mirror", "grow"};
        call(names[random.nextInt(names.length)], net());
    }

    private void readText() throws Exception {
        int network = net();
        int comparators = 1 + random.nextInt(random.nextInt(6) == 0 ? 16 : 5);
        int length = random.nextInt(4) == 0 ? random.nextInt(4 * comparators) : 4 * comparators - 1;
        int wires = Math.max(2, model.wires(network));
        List<Integer> free = new ArrayList<>();
        for (int k = 0; k < length; k++) {
            int place = k % 4;
            int sign = place == 1 ? ':' : place == 3 ? (random.nextInt(4) == 0 && !free.isEmpty() ? ',' : ';') : 0;
            if (k == 0 || sign == ';') {
                free.clear();
                for (int w = 0; w < wires; w++) {
                    free.add(w);
                }
            }
            if (sign == 0) {
                sign = '0' + (free.isEmpty() ? random.nextInt(10) : free.remove(random.nextInt(free.size())));
            }
            call("append", random.nextInt(80) == 0 ? 30 + random.nextInt(100) : sign);
        }
        if (seldom()) {
            call("clearText");
        }
        call("parse", network);
    }

    private void runKeys() throws Exception {
        int spread = random.nextBoolean() ? 3 : 100;
        for (int k = random.nextInt(8); k >= 0; k--) {
            call("setKey", below(8), below(spread));
        }
        call("run", net());
        for (int k = 0; k < 3; k++) {
            call("result", below(mostWires));
            call("origin", below(mostWires));
        }
        call("isStable");
    }

    private void useBlocks() throws Exception {
        int shelf = below(3);
        if (random.nextInt(3) > 0) {
            int kind = below(6);
            boolean gate = kind == 1 || kind == 2;
            int most = random.nextInt(3) == 0 ? 10 : mostWires;
            call("place", shelf, kind, below(gate ? most : 2), below(gate ? most : 10));
        }
        switch (random.nextInt(4)) {
            case 0 -> call("castBlock", shelf, below(6));
            case 1 -> call("blockSize", shelf, wireCount());
            case 2 -> call("discard", shelf);
            default -> call("applyBlock", shelf, net());
        }
    }

    private void look() throws Exception {
        for (int network = 0; network < 4; network++) {
            call("wires", network);
            call("size", network);
            for (int p = 0; p < model.size(network); p++) {
                call("comparator", network, p);
            }
        }
    }

    private void ask() throws Exception {
        int network = net();
        switch (random.nextInt(22)) {
            case 0 -> call("comparator", network, positionOf(network));
            case 1 -> call("layer", network, positionOf(network));
            case 2 -> call("depth", network);
            case 3 -> call("outputCount", network);
            case 4 -> call("outputOf", network, below(1 << Math.max(1, model.wires(network))));
            case 5 -> call("isSorter", network);
            case 6 -> call("firstFailure", network);
            case 7 -> call("isSelector", network, wireOf(network));
            case 8 -> call("countSorted", network);
            case 9 -> call("firstUnsorted", network);
            case 10 -> call("totalExchanges", network);
            case 11 -> call("mostExchanges", network);
            case 12 -> call("isRedundant", network, positionOf(network));
            case 13 -> call("candidate", network, below(6), below(2));
            case 14 -> call("candidate", network, below(28), below(2));
            case 15 -> call("missing", network, below(3));
            case 16 -> call("sameOutputs", network, net());
            case 17 -> call("isIsomorphic", network, net());
            case 18 -> call("subsumes", network, net());
            case 19 -> call("isMerger", network, below(1 + Math.max(1, model.wires(network))));
            case 20 -> call("size", network);
            default -> call("wires", network);
        }
    }
}
