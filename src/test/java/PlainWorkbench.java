import java.util.ArrayDeque;
import java.util.ArrayList;
import java.util.Arrays;
import java.util.Comparator;
import java.util.Deque;
import java.util.List;
import java.util.Set;
import java.util.TreeSet;

/**
 * The document once more, word by word and without any shortcut: every permutation is listed, every input is run.
 * ModelTests compares the program with it. It shares no code and no idea with the program on purpose.
 */
public final class PlainWorkbench {
    private static final int NO_SUCH_ELEMENT = -1;
    private static final int BAD_VALUE = -2;
    private static final int FULL = -3;
    private static final int NONE = -4;
    private static final int STATE = -5;
    private static final int TOO_LARGE = -6;
    private static final int EMPTY = -7;
    private static final int WRONG_TYPE = -8;

    private record Gate(int i, int j) { }

    private record Net(int wires, List<Gate> gates) {
        Net with(List<Gate> others) {
            return new Net(wires, List.copyOf(others));
        }
    }

    private record Block(int kind, int a, int b) { }

    private record Ranked(Gate gate, int outputs) { }

    private Net[] nets = new Net[4];
    private final int[] keys = new int[8];
    private String text = "";
    private final Deque<Net[]> past = new ArrayDeque<>();
    private final Block[] shelves = new Block[3];
    private int[] lastValues = null;
    private int[] lastOrigins = null;

    private static final List<List<int[]>> PERMUTATIONS = new ArrayList<>();

    static {
        for (int n = 0; n <= 8; n++) {
            List<int[]> all = new ArrayList<>();
            listPermutations(n, new int[0], all);
            PERMUTATIONS.add(all);
        }
    }

    public PlainWorkbench() {
        Arrays.fill(nets, new Net(2, List.of()));
    }

    private static void listPermutations(int n, int[] begun, List<int[]> all) {
        if (begun.length == n) {
            all.add(begun);
            return;
        }
        for (int value = 0; value < n; value++) {
            int v = value;
            if (Arrays.stream(begun).noneMatch(x -> x == v)) {
                int[] longer = Arrays.copyOf(begun, begun.length + 1);
                longer[begun.length] = value;
                listPermutations(n, longer, all);
            }
        }
    }

    private boolean none(int... numbers) {
        for (int number : numbers) {
            if (number < 0 || number > 3) {
                return true;
            }
        }
        return false;
    }

    private void change(int network, Net replacement) {
        past.push(nets.clone());
        if (past.size() > 12) {
            past.removeLast();
        }
        nets[network] = replacement;
    }

    // Values travel along the wires in an array; the answer is how many comparators exchanged.
    private static int flow(Net net, int[] values, int[] origins) {
        int exchanges = 0;
        for (Gate g : net.gates()) {
            if (values[g.i()] > values[g.j()]) {
                int v = values[g.i()];
                values[g.i()] = values[g.j()];
                values[g.j()] = v;
                if (origins != null) {
                    int o = origins[g.i()];
                    origins[g.i()] = origins[g.j()];
                    origins[g.j()] = o;
                }
                exchanges++;
            }
        }
        return exchanges;
    }

    private static int[] spread(int bits, int n) {
        int[] values = new int[n];
        for (int w = 0; w < n; w++) {
            values[w] = (bits >> w) % 2;
        }
        return values;
    }

    private static int pack(int[] values) {
        int bits = 0;
        for (int w = 0; w < values.length; w++) {
            bits += values[w] << w;
        }
        return bits;
    }

    private static int outputFor(Net net, int input) {
        int[] values = spread(input, net.wires());
        flow(net, values, null);
        return pack(values);
    }

    private static Set<Integer> outputsOf(Net net) {
        Set<Integer> outputs = new TreeSet<>();
        for (int x = 0; x < 1 << net.wires(); x++) {
            outputs.add(outputFor(net, x));
        }
        return outputs;
    }

    private static boolean sorted(int[] values) {
        for (int u = 0; u < values.length; u++) {
            for (int v = u + 1; v < values.length; v++) {
                if (values[u] == 1 && values[v] == 0) {
                    return false;
                }
            }
        }
        return true;
    }

    private static boolean sorter(Net net) {
        for (int output : outputsOf(net)) {
            if (!sorted(spread(output, net.wires()))) {
                return false;
            }
        }
        return true;
    }

    private static boolean inPlace(int[] values) {
        for (int w = 0; w < values.length; w++) {
            if (values[w] != w) {
                return false;
            }
        }
        return true;
    }

    private static List<Gate> plus(List<Gate> gates, Gate gate) {
        List<Gate> longer = new ArrayList<>(gates);
        longer.add(gate);
        return longer;
    }

    private static List<Gate> standardGates(int n) {
        List<Gate> all = new ArrayList<>();
        for (int i = 0; i < n; i++) {
            for (int j = i + 1; j < n; j++) {
                all.add(new Gate(i, j));
            }
        }
        return all;
    }

    public int reset(int network, int wires) {
        if (none(network)) return NO_SUCH_ELEMENT;
        if (wires < 2 || wires > 8) return BAD_VALUE;
        int previous = nets[network].gates().size();
        change(network, new Net(wires, List.of()));
        return previous;
    }

    public int wires(int network) {
        return none(network) ? NO_SUCH_ELEMENT : nets[network].wires();
    }

    public int size(int network) {
        return none(network) ? NO_SUCH_ELEMENT : nets[network].gates().size();
    }

    private boolean noPosition(int network, int position) {
        return none(network) || position < 0 || position >= nets[network].gates().size();
    }

    private boolean noWire(int network, int wire) {
        return wire < 0 || wire >= nets[network].wires();
    }

    private static int code(Gate g) {
        return 10 * g.i() + g.j();
    }

    public int comparator(int network, int position) {
        return noPosition(network, position) ? NO_SUCH_ELEMENT : code(nets[network].gates().get(position));
    }

    public int add(int network, int i, int j) {
        if (none(network) || noWire(network, i) || noWire(network, j)) return NO_SUCH_ELEMENT;
        if (i == j) return BAD_VALUE;
        if (size(network) == 40) return FULL;
        change(network, nets[network].with(plus(nets[network].gates(), new Gate(i, j))));
        return size(network);
    }

    public int insert(int network, int position, int i, int j) {
        if (none(network) || position < 0 || position > size(network)) return NO_SUCH_ELEMENT;
        if (noWire(network, i) || noWire(network, j)) return NO_SUCH_ELEMENT;
        if (i == j) return BAD_VALUE;
        if (size(network) == 40) return FULL;
        List<Gate> gates = new ArrayList<>(nets[network].gates());
        gates.add(position, new Gate(i, j));
        change(network, nets[network].with(gates));
        return size(network);
    }

    public int remove(int network, int position) {
        if (noPosition(network, position)) return NO_SUCH_ELEMENT;
        List<Gate> gates = new ArrayList<>(nets[network].gates());
        Gate removed = gates.remove(position);
        change(network, nets[network].with(gates));
        return code(removed);
    }

    private static boolean touch(Gate a, Gate b) {
        return a.i() == b.i() || a.i() == b.j() || a.j() == b.i() || a.j() == b.j();
    }

    private static List<Integer> layers(Net net) {
        List<Integer> layers = new ArrayList<>();
        for (int p = 0; p < net.gates().size(); p++) {
            int greatest = -1;
            for (int q = 0; q < p; q++) {
                if (touch(net.gates().get(p), net.gates().get(q))) {
                    greatest = Math.max(greatest, layers.get(q));
                }
            }
            layers.add(greatest + 1);
        }
        return layers;
    }

    public int layer(int network, int position) {
        return noPosition(network, position) ? NO_SUCH_ELEMENT : layers(nets[network]).get(position);
    }

    public int depth(int network) {
        return none(network) ? NO_SUCH_ELEMENT : new TreeSet<>(layers(nets[network])).size();
    }

    public int append(int character) {
        if (character < 33 || character > 126) return BAD_VALUE;
        if (text.length() == 60) return FULL;
        text += (char) character;
        return text.length();
    }

    public int clearText() {
        int previous = text.length();
        text = "";
        return previous;
    }

    // The grammar as a set of signs that can stand at a place, told from what stands before it.
    private static boolean canStand(String before, char sign, int n) {
        int place = before.length() % 4;
        if (place == 1) return sign == ':';
        if (place == 3) return sign == ',' || sign == ';';
        String layer = before.substring(before.lastIndexOf(';') + 1);
        return sign >= '0' && sign < '0' + n && layer.indexOf(sign) < 0;
    }

    public int parse(int network) {
        String read = text;
        text = "";
        if (none(network)) return NO_SUCH_ELEMENT;
        for (int k = 0; k < read.length(); k++) {
            if (!canStand(read.substring(0, k), read.charAt(k), nets[network].wires())) {
                return -100 - k;
            }
        }
        if (read.length() % 4 != 3) return -100 - read.length();
        List<Gate> gates = new ArrayList<>();
        for (String part : read.split("[,;]")) {
            gates.add(new Gate(part.charAt(0) - '0', part.charAt(2) - '0'));
        }
        change(network, nets[network].with(gates));
        return gates.size();
    }

    public int setKey(int key, int value) {
        if (key < 0 || key > 7) return NO_SUCH_ELEMENT;
        if (value < 0 || value > 99) return BAD_VALUE;
        int previous = keys[key];
        keys[key] = value;
        return previous;
    }

    public int run(int network) {
        if (none(network)) return NO_SUCH_ELEMENT;
        int n = nets[network].wires();
        lastValues = Arrays.copyOf(keys, n);
        lastOrigins = new int[n];
        for (int w = 0; w < n; w++) {
            lastOrigins[w] = w;
        }
        return flow(nets[network], lastValues, lastOrigins);
    }

    public int result(int wire) {
        if (lastValues == null) return STATE;
        return wire < 0 || wire >= lastValues.length ? NO_SUCH_ELEMENT : lastValues[wire];
    }

    public int origin(int wire) {
        if (lastValues == null) return STATE;
        return wire < 0 || wire >= lastValues.length ? NO_SUCH_ELEMENT : lastOrigins[wire];
    }

    public int isStable() {
        if (lastValues == null) return STATE;
        for (int value = 0; value <= 99; value++) {
            int before = -1;
            for (int w = 0; w < lastValues.length; w++) {
                if (lastValues[w] == value) {
                    if (lastOrigins[w] < before) return 0;
                    before = lastOrigins[w];
                }
            }
        }
        return 1;
    }

    public int outputCount(int network) {
        return none(network) ? NO_SUCH_ELEMENT : outputsOf(nets[network]).size();
    }

    public int outputOf(int network, int input) {
        if (none(network)) return NO_SUCH_ELEMENT;
        for (int bit = nets[network].wires(); bit < 32; bit++) {
            if ((input >>> bit & 1) == 1) return BAD_VALUE;
        }
        return outputFor(nets[network], input);
    }

    public int isSorter(int network) {
        if (none(network)) return NO_SUCH_ELEMENT;
        return sorter(nets[network]) ? 1 : 0;
    }

    public int firstFailure(int network) {
        if (none(network)) return NO_SUCH_ELEMENT;
        int n = nets[network].wires();
        for (int x = 0; x < 1 << n; x++) {
            if (!sorted(spread(outputFor(nets[network], x), n))) return x;
        }
        return NONE;
    }

    public int isSelector(int network, int wire) {
        if (none(network) || noWire(network, wire)) return NO_SUCH_ELEMENT;
        for (int[] input : PERMUTATIONS.get(nets[network].wires())) {
            int[] values = input.clone();
            flow(nets[network], values, null);
            if (values[wire] != wire) return 0;
        }
        return 1;
    }

    public int countSorted(int network) {
        if (none(network)) return NO_SUCH_ELEMENT;
        int count = 0;
        for (int[] input : PERMUTATIONS.get(nets[network].wires())) {
            int[] values = input.clone();
            flow(nets[network], values, null);
            count += inPlace(values) ? 1 : 0;
        }
        return count;
    }

    public int firstUnsorted(int network) {
        if (none(network)) return NO_SUCH_ELEMENT;
        for (int[] input : PERMUTATIONS.get(nets[network].wires())) {
            int[] values = input.clone();
            flow(nets[network], values, null);
            if (!inPlace(values)) {
                StringBuilder digits = new StringBuilder();
                for (int value : input) {
                    digits.append(value);
                }
                return Integer.parseInt(digits.toString());
            }
        }
        return NONE;
    }

    public long totalExchanges(int network) {
        if (none(network)) return NO_SUCH_ELEMENT;
        long total = 0;
        for (int[] input : PERMUTATIONS.get(nets[network].wires())) {
            total += flow(nets[network], input.clone(), null);
        }
        return total;
    }

    public int mostExchanges(int network) {
        if (none(network)) return NO_SUCH_ELEMENT;
        int most = 0;
        for (int[] input : PERMUTATIONS.get(nets[network].wires())) {
            most = Math.max(most, flow(nets[network], input.clone(), null));
        }
        return most;
    }

    private static boolean redundant(Net net, int position) {
        Gate g = net.gates().get(position);
        for (int output : outputsOf(net.with(net.gates().subList(0, position)))) {
            int[] values = spread(output, net.wires());
            if (values[g.i()] > values[g.j()]) return false;
        }
        return true;
    }

    public int isRedundant(int network, int position) {
        if (noPosition(network, position)) return NO_SUCH_ELEMENT;
        return redundant(nets[network], position) ? 1 : 0;
    }

    public int prune(int network) {
        if (none(network)) return NO_SUCH_ELEMENT;
        List<Gate> kept = new ArrayList<>();
        for (int p = 0; p < size(network); p++) {
            if (!redundant(nets[network], p)) {
                kept.add(nets[network].gates().get(p));
            }
        }
        int removed = size(network) - kept.size();
        change(network, nets[network].with(kept));
        return removed;
    }

    private static Net without(Net net, int position) {
        List<Gate> gates = new ArrayList<>(net.gates());
        gates.remove(position);
        return net.with(gates);
    }

    public int reduce(int network) {
        if (none(network)) return NO_SUCH_ELEMENT;
        if (!sorter(nets[network])) return STATE;
        Net net = nets[network];
        boolean goesOn = true;
        while (goesOn) {
            int greatest = -1;
            for (int p = 0; p < net.gates().size(); p++) {
                if (sorter(without(net, p))) {
                    greatest = p;
                }
            }
            goesOn = greatest >= 0;
            net = goesOn ? without(net, greatest) : net;
        }
        int removed = size(network) - net.gates().size();
        change(network, net);
        return removed;
    }

    public int standardize(int network) {
        if (none(network)) return NO_SUCH_ELEMENT;
        List<Gate> gates = new ArrayList<>(nets[network].gates());
        int turned = 0;
        for (int p = 0; p < gates.size(); p++) {
            int i = gates.get(p).i();
            int j = gates.get(p).j();
            if (i > j) {
                turned++;
                for (int q = p; q < gates.size(); q++) {
                    gates.set(q, new Gate(trade(gates.get(q).i(), i, j), trade(gates.get(q).j(), i, j)));
                }
            }
        }
        change(network, nets[network].with(gates));
        return turned;
    }

    private static int trade(int wire, int i, int j) {
        return wire == i ? j : wire == j ? i : wire;
    }

    public int mirror(int network) {
        if (none(network)) return NO_SUCH_ELEMENT;
        int n = nets[network].wires();
        List<Gate> gates = new ArrayList<>();
        for (Gate g : nets[network].gates()) {
            gates.add(new Gate(n - 1 - g.j(), n - 1 - g.i()));
        }
        change(network, nets[network].with(gates));
        return gates.size();
    }

    private static List<Ranked> candidates(Net net) {
        List<Ranked> all = new ArrayList<>();
        for (Gate g : standardGates(net.wires())) {
            all.add(new Ranked(g, outputsOf(net.with(plus(net.gates(), g))).size()));
        }
        all.sort(Comparator.comparingInt(Ranked::outputs).thenComparingInt(r -> code(r.gate())));
        return all;
    }

    public int candidate(int network, int rank, int what) {
        if (none(network)) return NO_SUCH_ELEMENT;
        List<Ranked> all = candidates(nets[network]);
        if (rank < 0 || rank >= all.size() || what < 0 || what > 1) return BAD_VALUE;
        return what == 0 ? code(all.get(rank).gate()) : all.get(rank).outputs();
    }

    public int grow(int network) {
        if (none(network)) return NO_SUCH_ELEMENT;
        if (sorter(nets[network])) return STATE;
        if (size(network) == 40) return FULL;
        Ranked first = candidates(nets[network]).get(0);
        change(network, nets[network].with(plus(nets[network].gates(), first.gate())));
        return outputsOf(nets[network]).size();
    }

    public int missing(int network, int most) {
        if (none(network)) return NO_SUCH_ELEMENT;
        if (most < 0 || most > 2) return BAD_VALUE;
        int least = 0;
        List<Net> level = List.of(nets[network]);
        while (least <= most) {
            for (Net net : level) {
                if (sorter(net)) return least;
            }
            List<Net> next = new ArrayList<>();
            for (Net net : level) {
                for (Gate g : standardGates(net.wires())) {
                    next.add(net.with(plus(net.gates(), g)));
                }
            }
            level = next;
            least++;
        }
        return NONE;
    }

    public int sameOutputs(int a, int b) {
        if (none(a, b)) return NO_SUCH_ELEMENT;
        if (wires(a) != wires(b)) return BAD_VALUE;
        return outputsOf(nets[a]).equals(outputsOf(nets[b])) ? 1 : 0;
    }

    public int isIsomorphic(int a, int b) {
        if (none(a, b)) return NO_SUCH_ELEMENT;
        if (wires(a) != wires(b)) return BAD_VALUE;
        for (int[] p : PERMUTATIONS.get(wires(a))) {
            List<Gate> renamed = new ArrayList<>();
            for (Gate g : nets[a].gates()) {
                renamed.add(new Gate(p[g.i()], p[g.j()]));
            }
            if (renamed.equals(nets[b].gates())) return 1;
        }
        return 0;
    }

    public int subsumes(int a, int b) {
        if (none(a, b)) return NO_SUCH_ELEMENT;
        if (wires(a) != wires(b)) return BAD_VALUE;
        if (wires(a) > 6) return TOO_LARGE;
        Set<Integer> wanted = outputsOf(nets[b]);
        for (int[] p : PERMUTATIONS.get(wires(a))) {
            Set<Integer> moved = new TreeSet<>();
            for (int output : outputsOf(nets[a])) {
                int[] values = spread(output, p.length);
                int[] put = new int[p.length];
                for (int w = 0; w < p.length; w++) {
                    put[p[w]] = values[w];
                }
                moved.add(pack(put));
            }
            if (wanted.containsAll(moved)) return 1;
        }
        return 0;
    }

    public int build(int network, int wires, int method) {
        if (none(network)) return NO_SUCH_ELEMENT;
        if (wires < 2 || wires > 8 || method < 0 || method > 3) return BAD_VALUE;
        List<Gate> gates = new ArrayList<>();
        if (method == 0) {
            for (int w = 1; w <= wires - 1; w++) {
                for (int v = w; v >= 1; v--) gates.add(new Gate(v - 1, v));
            }
        } else if (method == 1) {
            for (int w = wires - 1; w >= 1; w--) {
                for (int v = 0; v <= w - 1; v++) gates.add(new Gate(v, v + 1));
            }
        } else if (method == 2) {
            for (int r = 0; r <= wires - 1; r++) {
                for (int v = 0; v + 1 < wires; v++) {
                    if (v % 2 == r % 2) gates.add(new Gate(v, v + 1));
                }
            }
        } else {
            mergeExchange(wires, gates);
        }
        change(network, new Net(wires, List.copyOf(gates)));
        return gates.size();
    }

    private static void mergeExchange(int n, List<Gate> gates) {
        int t = 0;
        while (Math.pow(2, t) < n) {
            t++;
        }
        int start = (int) Math.pow(2, t - 1);
        int p = start;
        while (p > 0) {
            int q = start;
            int r = 0;
            int d = p;
            while (true) {
                for (int v = 0; v <= n - d - 1; v++) {
                    if ((v & p) == r) gates.add(new Gate(v, v + d));
                }
                if (q == p) {
                    break;
                }
                d = q - p;
                q = q / 2;
                r = p;
            }
            p = p / 2;
        }
    }

    public int isMerger(int network, int first) {
        if (none(network)) return NO_SUCH_ELEMENT;
        int n = wires(network);
        if (first < 0 || first > n) return BAD_VALUE;
        for (int x = 0; x < 1 << n; x++) {
            int[] values = spread(x, n);
            if (sorted(Arrays.copyOfRange(values, 0, first)) && sorted(Arrays.copyOfRange(values, first, n))) {
                flow(nets[network], values, null);
                if (!sorted(values)) return 0;
            }
        }
        return 1;
    }

    public int concatenate(int a, int b, int to) {
        if (none(a, b, to)) return NO_SUCH_ELEMENT;
        if (wires(a) != wires(b)) return BAD_VALUE;
        if (size(a) + size(b) > 40) return FULL;
        List<Gate> gates = new ArrayList<>(nets[a].gates());
        gates.addAll(nets[b].gates());
        change(to, nets[a].with(gates));
        return gates.size();
    }

    public int beside(int a, int b, int to) {
        if (none(a, b, to)) return NO_SUCH_ELEMENT;
        int first = wires(a);
        if (first + wires(b) > 8) return TOO_LARGE;
        if (size(a) + size(b) > 40) return FULL;
        List<Gate> gates = new ArrayList<>(nets[a].gates());
        for (Gate g : nets[b].gates()) {
            gates.add(new Gate(first + g.i(), first + g.j()));
        }
        change(to, new Net(first + wires(b), List.copyOf(gates)));
        return wires(to);
    }

    public int undo() {
        if (past.isEmpty()) return NONE;
        nets = past.pop();
        return past.size();
    }

    public int place(int shelf, int kind, int a, int b) {
        if (shelf < 0 || shelf > 2) return NO_SUCH_ELEMENT;
        if (kind < 0 || kind > 5) return BAD_VALUE;
        boolean gate = kind == 1 || kind == 2;
        if (gate && (a < 0 || a > 7 || b < 0 || b > 7 || a == b)) return BAD_VALUE;
        if (kind >= 3 && a != 0 && a != 1) return BAD_VALUE;
        if (kind >= 4 && (b < 0 || b > 9)) return BAD_VALUE;
        shelves[shelf] = new Block(kind, a, b);
        int count = 0;
        for (Block block : shelves) {
            count += block == null ? 0 : 1;
        }
        return count;
    }

    public int discard(int shelf) {
        if (shelf < 0 || shelf > 2) return NO_SUCH_ELEMENT;
        if (shelves[shelf] == null) return EMPTY;
        int kind = shelves[shelf].kind();
        shelves[shelf] = null;
        return kind;
    }

    public int castBlock(int shelf, int kind) {
        if (shelf < 0 || shelf > 2) return NO_SUCH_ELEMENT;
        if (kind < 0 || kind > 5) return BAD_VALUE;
        if (shelves[shelf] == null) return EMPTY;
        List<List<Integer>> ancestors = List.of(List.of(0), List.of(1, 0), List.of(2, 1, 0), List.of(3, 0),
                List.of(4, 3, 0), List.of(5, 4, 3, 0));
        return ancestors.get(shelves[shelf].kind()).contains(kind) ? shelves[shelf].kind() : WRONG_TYPE;
    }

    private static List<Gate> layerOf(int a, int n) {
        List<Gate> gates = new ArrayList<>();
        for (int v = a; v < n - 1; v += 2) {
            gates.add(new Gate(v, v + 1));
        }
        return gates;
    }

    private static List<Gate> unfolded(Block block, int n) {
        List<Gate> gates = new ArrayList<>();
        if (block.kind() == 1 || block.kind() == 2) {
            gates.add(new Gate(block.a(), block.b()));
        }
        if (block.kind() == 2) {
            gates.add(new Gate(n - 1 - block.b(), n - 1 - block.a()));
        }
        if (block.kind() == 3) {
            gates.addAll(layerOf(block.a(), n));
        }
        if (block.kind() >= 4) {
            int turn = block.a();
            for (int k = 0; k < block.b(); k++) {
                gates.addAll(layerOf(turn, n));
                turn = 1 - turn;
            }
        }
        if (block.kind() == 5) {
            gates.addAll(layerOf(block.a(), n));
        }
        return gates;
    }

    private static boolean outside(List<Gate> gates, int n) {
        for (Gate g : gates) {
            if (g.i() < 0 || g.i() >= n || g.j() < 0 || g.j() >= n) return true;
        }
        return false;
    }

    public int blockSize(int shelf, int wires) {
        if (shelf < 0 || shelf > 2) return NO_SUCH_ELEMENT;
        if (wires < 2 || wires > 8) return BAD_VALUE;
        if (shelves[shelf] == null) return EMPTY;
        List<Gate> gates = unfolded(shelves[shelf], wires);
        return outside(gates, wires) ? STATE : gates.size();
    }

    public int applyBlock(int shelf, int network) {
        if (shelf < 0 || shelf > 2 || none(network)) return NO_SUCH_ELEMENT;
        if (shelves[shelf] == null) return EMPTY;
        List<Gate> gates = unfolded(shelves[shelf], wires(network));
        if (outside(gates, wires(network))) return STATE;
        if (size(network) + gates.size() > 40) return FULL;
        List<Gate> all = new ArrayList<>(nets[network].gates());
        all.addAll(gates);
        change(network, nets[network].with(all));
        return gates.size();
    }
}
