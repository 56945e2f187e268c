import java.util.Arrays;

/**
 * A workbench for comparator networks: networks on a few wires are edited, read from text, built, run, proved or
 * refuted by zero-one inputs, reduced, extended, compared and undone. Every row is made once, in a constructor, and
 * used again by all calls, because all calls of a run share one room.
 */
public final class ComparatorNetworks {
    public static final int NO_SUCH_ELEMENT = -1;
    public static final int BAD_VALUE = -2;
    public static final int FULL = -3;
    public static final int NONE = -4;
    public static final int STATE = -5;
    public static final int TOO_LARGE = -6;
    public static final int EMPTY = -7;
    public static final int WRONG_TYPE = -8;

    private static final int ACCEPTED = 0;
    private static final int TEXT_ERROR = -100;
    private static final int NOWHERE = -1;

    private static final int NETWORKS = 4;
    private static final int LEAST_WIRES = 2;
    private static final int MOST_WIRES = 8;
    private static final int MOST_WIRES_TO_SUBSUME = 6;
    private static final int ROOM = 40;
    private static final int INPUTS = 1 << MOST_WIRES;
    private static final int PAIRS = MOST_WIRES * (MOST_WIRES - 1) / 2;
    private static final int TEXT_ROOM = 60;
    private static final int KEYS = 8;
    private static final int MOST_KEY = 99;
    private static final int SHELVES = 3;
    private static final int UNDOABLE = 12;
    private static final int MOST_MISSING = 2;

    private final Network[] networks;
    private final Network spare;
    private final History history;
    private final Text text;
    private final int[] keys;
    private final Trial trial;
    private final Shelf[] shelves;
    private final Sweep sweep;
    private final OutputSet outputs;
    private final OutputSet otherOutputs;
    private final Extensions extensions;
    private final Chains chains;
    private final Renaming renaming;

    public ComparatorNetworks() {
        networks = new Network[NETWORKS];
        for (int k = 0; k < NETWORKS; k++) {
            networks[k] = new Network();
        }
        spare = new Network();
        history = new History();
        text = new Text();
        keys = new int[KEYS];
        trial = new Trial();
        shelves = new Shelf[SHELVES];
        for (int k = 0; k < SHELVES; k++) {
            shelves[k] = new Shelf();
        }
        sweep = new Sweep();
        outputs = new OutputSet();
        otherOutputs = new OutputSet();
        extensions = new Extensions();
        chains = new Chains();
        renaming = new Renaming();
    }

    // ---- editing ----

    public int reset(int network, int wires) {
        if (!isNetwork(network)) {
            return NO_SUCH_ELEMENT;
        }
        if (!isWireCount(wires)) {
            return BAD_VALUE;
        }
        remember(network);
        int previous = networks[network].count;
        networks[network].restart(wires);
        return previous;
    }

    public int wires(int network) {
        return isNetwork(network) ? networks[network].wireCount : NO_SUCH_ELEMENT;
    }

    public int size(int network) {
        return isNetwork(network) ? networks[network].count : NO_SUCH_ELEMENT;
    }

    public int comparator(int network, int position) {
        return isPosition(network, position) ? networks[network].codeAt(position) : NO_SUCH_ELEMENT;
    }

    public int add(int network, int i, int j) {
        return isNetwork(network) ? pushInto(network, networks[network].count, i, j) : NO_SUCH_ELEMENT;
    }

    public int insert(int network, int position, int i, int j) {
        if (!isNetwork(network) || position < 0 || position > networks[network].count) {
            return NO_SUCH_ELEMENT;
        }
        return pushInto(network, position, i, j);
    }

    public int remove(int network, int position) {
        if (!isPosition(network, position)) {
            return NO_SUCH_ELEMENT;
        }
        remember(network);
        int code = networks[network].codeAt(position);
        networks[network].drop(position);
        return code;
    }

    public int layer(int network, int position) {
        return isPosition(network, position) ? networks[network].levelAt(position) : NO_SUCH_ELEMENT;
    }

    public int depth(int network) {
        return isNetwork(network) ? networks[network].levels() : NO_SUCH_ELEMENT;
    }

    // ---- text ----

    public int append(int character) {
        return text.put(character);
    }

    public int clearText() {
        return text.empty();
    }

    public int parse(int network) {
        int answer = NO_SUCH_ELEMENT;
        if (isNetwork(network)) {
            spare.restart(networks[network].wireCount);
            int error = text.readInto(spare);
            answer = error == NOWHERE ? replaceBySpare(network) : TEXT_ERROR - error;
        }
        text.empty();
        return answer;
    }

    // ---- keys and runs ----

    public int setKey(int key, int value) {
        if (key < 0 || key >= KEYS) {
            return NO_SUCH_ELEMENT;
        }
        if (value < 0 || value > MOST_KEY) {
            return BAD_VALUE;
        }
        int previous = keys[key];
        keys[key] = value;
        return previous;
    }

    public int run(int network) {
        return isNetwork(network) ? trial.perform(networks[network], keys) : NO_SUCH_ELEMENT;
    }

    public int result(int wire) {
        if (!trial.happened) {
            return STATE;
        }
        return trial.hadWire(wire) ? trial.values[wire] : NO_SUCH_ELEMENT;
    }

    public int origin(int wire) {
        if (!trial.happened) {
            return STATE;
        }
        return trial.hadWire(wire) ? trial.origins[wire] : NO_SUCH_ELEMENT;
    }

    public int isStable() {
        return trial.happened ? oneIf(trial.keptOrder()) : STATE;
    }

    // ---- zero-one inputs ----

    public int outputCount(int network) {
        if (!isNetwork(network)) {
            return NO_SUCH_ELEMENT;
        }
        gatherOutputs(networks[network], outputs);
        return outputs.count;
    }

    public int outputOf(int network, int input) {
        if (!isNetwork(network)) {
            return NO_SUCH_ELEMENT;
        }
        if (input < 0 || input >= 1 << networks[network].wireCount) {
            return BAD_VALUE;
        }
        return networks[network].carry(input);
    }

    public int isSorter(int network) {
        return isNetwork(network) ? oneIf(sorts(networks[network], NOWHERE)) : NO_SUCH_ELEMENT;
    }

    public int firstFailure(int network) {
        if (!isNetwork(network)) {
            return NO_SUCH_ELEMENT;
        }
        sweep.passAll(networks[network], NOWHERE);
        int failure = sweep.lowestFailure();
        return failure == NOWHERE ? NONE : failure;
    }

    // ---- permutation inputs ----

    public int isSelector(int network, int wire) {
        if (!isNetwork(network) || !networks[network].hasWire(wire)) {
            return NO_SUCH_ELEMENT;
        }
        sweep.passAll(networks[network], NOWHERE);
        return oneIf(sweep.selects(wire));
    }

    public int countSorted(int network) {
        if (!isNetwork(network)) {
            return NO_SUCH_ELEMENT;
        }
        sweep.passAll(networks[network], NOWHERE);
        return chains.countWithoutFailure(sweep);
    }

    public int firstUnsorted(int network) {
        if (!isNetwork(network)) {
            return NO_SUCH_ELEMENT;
        }
        sweep.passAll(networks[network], NOWHERE);
        return chains.leastWithFailure(sweep);
    }

    public long totalExchanges(int network) {
        return isNetwork(network) ? chains.allExchanges(networks[network]) : NO_SUCH_ELEMENT;
    }

    public int mostExchanges(int network) {
        return isNetwork(network) ? chains.greatestExchanges(networks[network]) : NO_SUCH_ELEMENT;
    }

    // ---- reducing and turning ----

    public int isRedundant(int network, int position) {
        if (!isPosition(network, position)) {
            return NO_SUCH_ELEMENT;
        }
        Network net = networks[network];
        sweep.start(net.wireCount);
        for (int p = 0; p < position; p++) {
            sweep.pass(net.first[p], net.second[p]);
        }
        return oneIf(!sweep.exchanges(net.first[position], net.second[position]));
    }

    public int prune(int network) {
        if (!isNetwork(network)) {
            return NO_SUCH_ELEMENT;
        }
        Network net = networks[network];
        int before = net.count;
        spare.restart(net.wireCount);
        sweep.start(net.wireCount);
        for (int p = 0; p < before; p++) {
            if (sweep.exchanges(net.first[p], net.second[p])) {
                spare.push(net.first[p], net.second[p]);
                sweep.pass(net.first[p], net.second[p]);
            }
        }
        return before - replaceBySpare(network);
    }

    public int reduce(int network) {
        if (!isNetwork(network)) {
            return NO_SUCH_ELEMENT;
        }
        if (!sorts(networks[network], NOWHERE)) {
            return STATE;
        }
        int before = networks[network].count;
        spare.takeOver(networks[network]);
        int needless = lastNeedless(spare);
        for (int round = 0; round < ROOM && needless != NOWHERE; round++) {
            spare.drop(needless);
            needless = lastNeedless(spare);
        }
        return before - replaceBySpare(network);
    }

    public int standardize(int network) {
        if (!isNetwork(network)) {
            return NO_SUCH_ELEMENT;
        }
        remember(network);
        return networks[network].turnAll();
    }

    public int mirror(int network) {
        if (!isNetwork(network)) {
            return NO_SUCH_ELEMENT;
        }
        remember(network);
        networks[network].reflect();
        return networks[network].count;
    }

    // ---- extending ----

    public int candidate(int network, int rank, int what) {
        if (!isNetwork(network)) {
            return NO_SUCH_ELEMENT;
        }
        int wireCount = networks[network].wireCount;
        if (rank < 0 || rank >= wireCount * (wireCount - 1) / 2 || what < 0 || what > 1) {
            return BAD_VALUE;
        }
        gatherOutputs(networks[network], outputs);
        extensions.rankAll(outputs);
        return what == 0 ? extensions.codeAt(rank) : extensions.outputsAt(rank);
    }

    public int grow(int network) {
        if (!isNetwork(network)) {
            return NO_SUCH_ELEMENT;
        }
        Network net = networks[network];
        if (sorts(net, NOWHERE)) {
            return STATE;
        }
        if (net.count >= ROOM) {
            return FULL;
        }
        gatherOutputs(net, outputs);
        extensions.rankAll(outputs);
        remember(network);
        net.push(extensions.firstWire[0], extensions.secondWire[0]);
        return extensions.outputsAt(0);
    }

    public int missing(int network, int most) {
        if (!isNetwork(network)) {
            return NO_SUCH_ELEMENT;
        }
        if (most < 0 || most > MOST_MISSING) {
            return BAD_VALUE;
        }
        gatherOutputs(networks[network], outputs);
        int least = extensions.leastToSort(outputs, most);
        return least > most ? NONE : least;
    }

    // ---- comparing ----

    public int sameOutputs(int a, int b) {
        if (!isNetwork(a) || !isNetwork(b)) {
            return NO_SUCH_ELEMENT;
        }
        if (networks[a].wireCount != networks[b].wireCount) {
            return BAD_VALUE;
        }
        gatherOutputs(networks[a], outputs);
        gatherOutputs(networks[b], otherOutputs);
        return oneIf(outputs.equalTo(otherOutputs));
    }

    public int isIsomorphic(int a, int b) {
        if (!isNetwork(a) || !isNetwork(b)) {
            return NO_SUCH_ELEMENT;
        }
        if (networks[a].wireCount != networks[b].wireCount) {
            return BAD_VALUE;
        }
        return oneIf(renaming.makes(networks[a], networks[b]));
    }

    public int subsumes(int a, int b) {
        if (!isNetwork(a) || !isNetwork(b)) {
            return NO_SUCH_ELEMENT;
        }
        if (networks[a].wireCount != networks[b].wireCount) {
            return BAD_VALUE;
        }
        if (networks[a].wireCount > MOST_WIRES_TO_SUBSUME) {
            return TOO_LARGE;
        }
        gatherOutputs(networks[a], outputs);
        gatherOutputs(networks[b], otherOutputs);
        return oneIf(renaming.putsInto(outputs, otherOutputs));
    }

    // ---- building ----

    public int build(int network, int wires, int method) {
        if (!isNetwork(network)) {
            return NO_SUCH_ELEMENT;
        }
        if (!isWireCount(wires) || method < 0 || method > 3) {
            return BAD_VALUE;
        }
        spare.restart(wires);
        switch (method) {
            case 0:
                pushInsertion(spare);
                break;
            case 1:
                pushBubbles(spare);
                break;
            case 2:
                pushTransposition(spare);
                break;
            default:
                pushMergeExchange(spare);
                break;
        }
        return replaceBySpare(network);
    }

    public int isMerger(int network, int first) {
        if (!isNetwork(network)) {
            return NO_SUCH_ELEMENT;
        }
        if (first < 0 || first > networks[network].wireCount) {
            return BAD_VALUE;
        }
        return oneIf(merges(networks[network], first));
    }

    public int concatenate(int a, int b, int to) {
        if (!isNetwork(a) || !isNetwork(b) || !isNetwork(to)) {
            return NO_SUCH_ELEMENT;
        }
        if (networks[a].wireCount != networks[b].wireCount) {
            return BAD_VALUE;
        }
        if (networks[a].count + networks[b].count > ROOM) {
            return FULL;
        }
        spare.takeOver(networks[a]);
        spare.pushAll(networks[b], 0);
        return replaceBySpare(to);
    }

    public int beside(int a, int b, int to) {
        if (!isNetwork(a) || !isNetwork(b) || !isNetwork(to)) {
            return NO_SUCH_ELEMENT;
        }
        int wireCount = networks[a].wireCount + networks[b].wireCount;
        if (wireCount > MOST_WIRES) {
            return TOO_LARGE;
        }
        if (networks[a].count + networks[b].count > ROOM) {
            return FULL;
        }
        spare.restart(wireCount);
        spare.pushAll(networks[a], 0);
        spare.pushAll(networks[b], networks[a].wireCount);
        replaceBySpare(to);
        return wireCount;
    }

    // ---- history ----

    public int undo() {
        return history.takeBack(networks);
    }

    // ---- blocks ----

    public int place(int shelf, int kind, int a, int b) {
        if (!isShelf(shelf)) {
            return NO_SUCH_ELEMENT;
        }
        if (!Shelf.allows(kind, a, b)) {
            return BAD_VALUE;
        }
        shelves[shelf].hold(kind, a, b);
        return countBlocks();
    }

    public int discard(int shelf) {
        if (!isShelf(shelf)) {
            return NO_SUCH_ELEMENT;
        }
        if (!shelves[shelf].isTaken()) {
            return EMPTY;
        }
        int kind = shelves[shelf].kind;
        shelves[shelf].release();
        return kind;
    }

    public int castBlock(int shelf, int kind) {
        if (!isShelf(shelf)) {
            return NO_SUCH_ELEMENT;
        }
        if (kind < 0 || kind >= Shelf.KINDS) {
            return BAD_VALUE;
        }
        if (!shelves[shelf].isTaken()) {
            return EMPTY;
        }
        return shelves[shelf].isOfKind(kind) ? shelves[shelf].kind : WRONG_TYPE;
    }

    public int blockSize(int shelf, int wires) {
        if (!isShelf(shelf)) {
            return NO_SUCH_ELEMENT;
        }
        if (!isWireCount(wires)) {
            return BAD_VALUE;
        }
        return unfold(shelves[shelf], wires);
    }

    public int applyBlock(int shelf, int network) {
        if (!isShelf(shelf) || !isNetwork(network)) {
            return NO_SUCH_ELEMENT;
        }
        Network net = networks[network];
        int appended = unfold(shelves[shelf], net.wireCount);
        if (appended < 0) {
            return appended;
        }
        if (net.count + appended > ROOM) {
            return FULL;
        }
        remember(network);
        net.pushAll(spare, 0);
        return appended;
    }

    // ---- what the calls share ----

    private static boolean isNetwork(int network) {
        return network >= 0 && network < NETWORKS;
    }

    private static boolean isShelf(int shelf) {
        return shelf >= 0 && shelf < SHELVES;
    }

    private static boolean isWireCount(int wires) {
        return wires >= LEAST_WIRES && wires <= MOST_WIRES;
    }

    private boolean isPosition(int network, int position) {
        return isNetwork(network) && networks[network].hasPosition(position);
    }

    private static int oneIf(boolean holds) {
        return holds ? 1 : 0;
    }

    /** An output is sorted if the wires with 0 are the lowest ones, so that they fill the bits below some bit. */
    private static boolean isSorted(int bits, int wireCount) {
        int zeros = ~bits & ((1 << wireCount) - 1);
        return (zeros & (zeros + 1)) == 0;
    }

    /** What a comparator (i, j) makes of the values on all wires. */
    private static int exchanged(int bits, int i, int j) {
        boolean exchanges = (bits >> i & 1) > (bits >> j & 1);
        return exchanges ? bits ^ (1 << i | 1 << j) : bits;
    }

    private void remember(int network) {
        if (isNetwork(network)) {
            history.keep(network, networks[network]);
        }
    }

    private int pushInto(int network, int position, int i, int j) {
        int refusal = networks[network].refusal(i, j);
        if (refusal != ACCEPTED) {
            return refusal;
        }
        remember(network);
        networks[network].pushAt(position, i, j);
        return networks[network].count;
    }

    /** The new network is made aside first, since it may be made from the one that it replaces. */
    private int replaceBySpare(int network) {
        remember(network);
        networks[network].takeOver(spare);
        return spare.count;
    }

    private void gatherOutputs(Network net, OutputSet set) {
        sweep.passAll(net, NOWHERE);
        set.gather(sweep);
    }

    private boolean sorts(Network net, int skipped) {
        sweep.passAll(net, skipped);
        return sweep.lowestFailure() == NOWHERE;
    }

    /** Looks from the end each time: a comparator that was needed may be needless once another one is gone. */
    private int lastNeedless(Network net) {
        for (int p = net.count - 1; p >= 0; p--) {
            if (sorts(net, p)) {
                return p;
            }
        }
        return NOWHERE;
    }

    private static void pushInsertion(Network net) {
        for (int w = 1; w < net.wireCount; w++) {
            for (int v = w; v >= 1; v--) {
                net.push(v - 1, v);
            }
        }
    }

    private static void pushBubbles(Network net) {
        for (int w = net.wireCount - 1; w >= 1; w--) {
            for (int v = 0; v < w; v++) {
                net.push(v, v + 1);
            }
        }
    }

    private static void pushTransposition(Network net) {
        for (int r = 0; r < net.wireCount; r++) {
            net.pushNeighbours(r % 2);
        }
    }

    private static void pushMergeExchange(Network net) {
        int top = 1;
        for (int t = 1; t < MOST_WIRES && top * 2 < net.wireCount; t++) {
            top *= 2;
        }
        for (int p = top; p >= 1; p /= 2) {
            int r = 0;
            int d = p;
            for (int q = top; q >= p; q /= 2) {
                pushApart(net, d, p, r);
                d = q - p;
                r = p;
            }
        }
    }

    private static void pushApart(Network net, int distance, int mask, int wanted) {
        for (int v = 0; v + distance < net.wireCount; v++) {
            if ((v & mask) == wanted) {
                net.push(v, v + distance);
            }
        }
    }

    private static boolean merges(Network net, int first) {
        int others = net.wireCount - first;
        for (int ones = 0; ones <= first; ones++) {
            for (int otherOnes = 0; otherOnes <= others; otherOnes++) {
                int input = sortedBits(first, ones) | sortedBits(others, otherOnes) << first;
                if (!isSorted(net.carry(input), net.wireCount)) {
                    return false;
                }
            }
        }
        return true;
    }

    private static int sortedBits(int wireCount, int ones) {
        return (1 << wireCount) - (1 << wireCount - ones);
    }

    private int countBlocks() {
        int blocks = 0;
        for (int k = 0; k < SHELVES; k++) {
            if (shelves[k].isTaken()) {
                blocks++;
            }
        }
        return blocks;
    }

    /** Leaves what a block appends in the spare network, and answers how much that is or why there is nothing. */
    private int unfold(Shelf shelf, int wireCount) {
        if (!shelf.isTaken()) {
            return EMPTY;
        }
        if (!shelf.fits(wireCount)) {
            return STATE;
        }
        spare.restart(wireCount);
        shelf.pushOnto(spare);
        return spare.count;
    }

    /** A network. What it holds is valid at all times: nothing gets in but through push, pushAt and takeOver. */
    private static final class Network {
        int wireCount = LEAST_WIRES;
        int count = 0;
        final int[] first = new int[ROOM];
        final int[] second = new int[ROOM];
        final int[] layersPassed = new int[MOST_WIRES];

        boolean hasWire(int wire) {
            return wire >= 0 && wire < wireCount;
        }

        boolean hasPosition(int position) {
            return position >= 0 && position < count;
        }

        void restart(int newWireCount) {
            wireCount = newWireCount;
            count = 0;
        }

        void takeOver(Network other) {
            wireCount = other.wireCount;
            count = other.count;
            System.arraycopy(other.first, 0, first, 0, ROOM);
            System.arraycopy(other.second, 0, second, 0, ROOM);
        }

        int codeAt(int position) {
            return hasPosition(position) ? 10 * first[position] + second[position] : NO_SUCH_ELEMENT;
        }

        int refusal(int i, int j) {
            if (!hasWire(i) || !hasWire(j)) {
                return NO_SUCH_ELEMENT;
            }
            if (i == j) {
                return BAD_VALUE;
            }
            return count >= ROOM ? FULL : ACCEPTED;
        }

        void push(int i, int j) {
            if (refusal(i, j) != ACCEPTED) {
                return;
            }
            first[count] = i;
            second[count] = j;
            count++;
        }

        void pushAt(int position, int i, int j) {
            if (position < 0 || position > count || refusal(i, j) != ACCEPTED) {
                return;
            }
            for (int p = count; p > position; p--) {
                first[p] = first[p - 1];
                second[p] = second[p - 1];
            }
            first[position] = i;
            second[position] = j;
            count++;
        }

        /** The other network's count is taken beforehand, so that a network can follow itself. */
        void pushAll(Network other, int shift) {
            int added = other.count;
            for (int p = 0; p < added; p++) {
                push(other.first[p] + shift, other.second[p] + shift);
            }
        }

        void pushNeighbours(int start) {
            for (int v = start; v + 1 < wireCount; v += 2) {
                push(v, v + 1);
            }
        }

        void drop(int position) {
            if (!hasPosition(position)) {
                return;
            }
            count--;
            for (int p = position; p < count; p++) {
                first[p] = first[p + 1];
                second[p] = second[p + 1];
            }
        }

        int levelAt(int position) {
            if (!hasPosition(position)) {
                return NO_SUCH_ELEMENT;
            }
            passLayers(position);
            return Math.max(layersPassed[first[position]], layersPassed[second[position]]);
        }

        int levels() {
            passLayers(count);
            int most = 0;
            for (int w = 0; w < wireCount; w++) {
                most = Math.max(most, layersPassed[w]);
            }
            return most;
        }

        private void passLayers(int end) {
            Arrays.fill(layersPassed, 0);
            for (int p = 0; p < end && p < count; p++) {
                int passed = 1 + Math.max(layersPassed[first[p]], layersPassed[second[p]]);
                layersPassed[first[p]] = passed;
                layersPassed[second[p]] = passed;
            }
        }

        int carry(int input) {
            int bits = input;
            for (int p = 0; p < count; p++) {
                bits = exchanged(bits, first[p], second[p]);
            }
            return bits;
        }

        /** Bit p of the answer tells whether the comparator at position p exchanges values. */
        long exchangesFor(int input) {
            int bits = input;
            long exchanges = 0;
            for (int p = 0; p < count; p++) {
                int next = exchanged(bits, first[p], second[p]);
                if (next != bits) {
                    exchanges |= 1L << p;
                }
                bits = next;
            }
            return exchanges;
        }

        int turnAll() {
            int turned = 0;
            for (int p = 0; p < count; p++) {
                int i = first[p];
                int j = second[p];
                if (i > j) {
                    first[p] = j;
                    second[p] = i;
                    swapWiresBehind(p, i, j);
                    turned++;
                }
            }
            return turned;
        }

        private void swapWiresBehind(int position, int i, int j) {
            for (int p = position + 1; p < count; p++) {
                first[p] = swapped(first[p], i, j);
                second[p] = swapped(second[p], i, j);
            }
        }

        private static int swapped(int wire, int i, int j) {
            if (wire == i) {
                return j;
            }
            return wire == j ? i : wire;
        }

        void reflect() {
            for (int p = 0; p < count; p++) {
                int i = first[p];
                first[p] = wireCount - 1 - second[p];
                second[p] = wireCount - 1 - i;
            }
        }
    }

    /** The latest changes. A change touches one network only, so that one alone is kept for each. */
    private static final class History {
        final Network[] before = new Network[UNDOABLE];
        final int[] changed = new int[UNDOABLE];
        int next = 0;
        int kept = 0;

        History() {
            for (int k = 0; k < UNDOABLE; k++) {
                before[k] = new Network();
            }
        }

        void keep(int network, Network net) {
            before[next].takeOver(net);
            changed[next] = network;
            next = (next + 1) % UNDOABLE;
            kept = Math.min(kept + 1, UNDOABLE);
        }

        int takeBack(Network[] networks) {
            if (kept == 0) {
                return NONE;
            }
            next = (next + UNDOABLE - 1) % UNDOABLE;
            kept--;
            int network = changed[next];
            if (network >= 0 && network < networks.length) {
                networks[network].takeOver(before[next]);
            }
            return kept;
        }
    }

    /** The text buffer and its reader. A comparator of the text takes four steps, the sign behind it included. */
    private static final class Text {
        private static final int LEAST_CODE = 33;
        private static final int MOST_CODE = 126;
        private static final int FIRST_WIRE = 0;
        private static final int COLON = 1;
        private static final int SECOND_WIRE = 2;
        private static final int SEPARATOR = 3;

        final int[] codes = new int[TEXT_ROOM];
        int length = 0;

        int put(int code) {
            if (code < LEAST_CODE || code > MOST_CODE) {
                return BAD_VALUE;
            }
            if (length >= TEXT_ROOM) {
                return FULL;
            }
            codes[length] = code;
            length++;
            return length;
        }

        int empty() {
            int previous = length;
            length = 0;
            return previous;
        }

        /** Puts the comparators into a network; answers the error position, or NOWHERE. */
        int readInto(Network net) {
            int step = FIRST_WIRE;
            int wiresUsed = 0;
            int i = 0;
            for (int at = 0; at < length; at++) {
                int code = codes[at];
                int wire = code - '0';
                if (!canContinue(step, code, net, wiresUsed)) {
                    return at;
                }
                if (step == FIRST_WIRE) {
                    i = wire;
                    wiresUsed |= 1 << wire;
                } else if (step == SECOND_WIRE) {
                    net.push(i, wire);
                    wiresUsed |= 1 << wire;
                } else if (code == ';') {
                    wiresUsed = 0;
                }
                step = step == SEPARATOR ? FIRST_WIRE : step + 1;
            }
            return step == SEPARATOR ? NOWHERE : length;
        }

        private static boolean canContinue(int step, int code, Network net, int wiresUsed) {
            if (step == COLON) {
                return code == ':';
            }
            if (step == SEPARATOR) {
                return code == ',' || code == ';';
            }
            int wire = code - '0';
            return net.hasWire(wire) && (wiresUsed >> wire & 1) == 0;
        }
    }

    /** What the latest run made; it stays when networks and keys change. */
    private static final class Trial {
        boolean happened = false;
        int wireCount = 0;
        final int[] values = new int[MOST_WIRES];
        final int[] origins = new int[MOST_WIRES];

        boolean hadWire(int wire) {
            return wire >= 0 && wire < wireCount;
        }

        int perform(Network net, int[] keys) {
            happened = true;
            wireCount = net.wireCount;
            for (int w = 0; w < wireCount; w++) {
                values[w] = keys[w];
                origins[w] = w;
            }
            int exchanges = 0;
            for (int p = 0; p < net.count; p++) {
                if (values[net.first[p]] > values[net.second[p]]) {
                    swap(values, net.first[p], net.second[p]);
                    swap(origins, net.first[p], net.second[p]);
                    exchanges++;
                }
            }
            return exchanges;
        }

        private static void swap(int[] row, int i, int j) {
            int held = row[i];
            row[i] = row[j];
            row[j] = held;
        }

        boolean keptOrder() {
            for (int v = 0; v < wireCount; v++) {
                for (int w = v + 1; w < wireCount; w++) {
                    if (values[v] == values[w] && origins[v] > origins[w]) {
                        return false;
                    }
                }
            }
            return true;
        }
    }

    /** A shelf, with its block if it holds one. */
    private static final class Shelf {
        private static final int BLOCK = 0;
        private static final int GATE = 1;
        private static final int TWIN_GATE = 2;
        private static final int LAYER = 3;
        private static final int REPEATED_LAYER = 4;
        private static final int BRICK = 5;
        private static final int KINDS = 6;
        private static final int NO_KIND = -1;
        private static final int[] PARENTS = {NO_KIND, BLOCK, GATE, BLOCK, LAYER, REPEATED_LAYER};
        private static final int MOST_TIMES = 9;

        int kind = NO_KIND;
        int a = 0;
        int b = 0;

        static boolean allows(int kind, int a, int b) {
            switch (kind) {
                case BLOCK:
                    return true;
                case GATE:
                case TWIN_GATE:
                    return a >= 0 && a < MOST_WIRES && b >= 0 && b < MOST_WIRES && a != b;
                case LAYER:
                    return a == 0 || a == 1;
                case REPEATED_LAYER:
                case BRICK:
                    return (a == 0 || a == 1) && b >= 0 && b <= MOST_TIMES;
                default:
                    return false;
            }
        }

        boolean isTaken() {
            return kind != NO_KIND;
        }

        void hold(int newKind, int newA, int newB) {
            kind = newKind;
            a = newA;
            b = newB;
        }

        void release() {
            kind = NO_KIND;
        }

        /** Goes up the tree of kinds from the block's own; the way up has fewer steps than there are kinds. */
        boolean isOfKind(int wanted) {
            int ancestor = kind;
            for (int step = 0; step < KINDS && ancestor >= 0 && ancestor < KINDS; step++) {
                if (ancestor == wanted) {
                    return true;
                }
                ancestor = PARENTS[ancestor];
            }
            return false;
        }

        boolean fits(int wireCount) {
            boolean namesWires = kind == GATE || kind == TWIN_GATE;
            return !namesWires || a < wireCount && b < wireCount;
        }

        void pushOnto(Network net) {
            switch (kind) {
                case GATE:
                    net.push(a, b);
                    break;
                case TWIN_GATE:
                    net.push(a, b);
                    net.push(net.wireCount - 1 - b, net.wireCount - 1 - a);
                    break;
                case LAYER:
                    net.pushNeighbours(a);
                    break;
                case REPEATED_LAYER:
                    pushRepeated(net);
                    break;
                case BRICK:
                    pushRepeated(net);
                    net.pushNeighbours(a);
                    break;
                default:
                    break;
            }
        }

        private void pushRepeated(Network net) {
            for (int r = 0; r < b; r++) {
                net.pushNeighbours(r % 2 == 0 ? a : 1 - a);
            }
        }
    }

    /**
     * All zero-one inputs at once. Each wire has a lane of bits, and bit x of it is the value on the wire for the
     * input x, so a comparator is one "and" and one "or" for 64 inputs. With fewer than 6 wires the inputs repeat
     * within the word, which changes no answer.
     */
    private static final class Sweep {
        private static final int WORD_WIRES = 6;
        private static final int WORD_BITS = 1 << WORD_WIRES;
        private static final int WORDS = INPUTS / WORD_BITS;
        private static final long[] WORD_LANES = {
            0xAAAAAAAAAAAAAAAAL, 0xCCCCCCCCCCCCCCCCL, 0xF0F0F0F0F0F0F0F0L,
            0xFF00FF00FF00FF00L, 0xFFFF0000FFFF0000L, 0xFFFFFFFF00000000L};

        final long[] lanes = new long[MOST_WIRES * WORDS];
        int wireCount = LEAST_WIRES;
        int words = 1;

        void start(int newWireCount) {
            wireCount = newWireCount;
            words = wireCount > WORD_WIRES ? 1 << wireCount - WORD_WIRES : 1;
            for (int w = 0; w < wireCount; w++) {
                for (int k = 0; k < words; k++) {
                    lanes[w * WORDS + k] = inputLane(w, k);
                }
            }
        }

        private static long inputLane(int wire, int word) {
            if (wire >= 0 && wire < WORD_WIRES) {
                return WORD_LANES[wire];
            }
            return (word >> wire - WORD_WIRES & 1) == 1 ? ~0L : 0L;
        }

        void pass(int i, int j) {
            for (int k = 0; k < words; k++) {
                long left = lanes[i * WORDS + k];
                long right = lanes[j * WORDS + k];
                lanes[i * WORDS + k] = left & right;
                lanes[j * WORDS + k] = left | right;
            }
        }

        void passAll(Network net, int skipped) {
            start(net.wireCount);
            for (int p = 0; p < net.count; p++) {
                if (p != skipped) {
                    pass(net.first[p], net.second[p]);
                }
            }
        }

        boolean exchanges(int i, int j) {
            for (int k = 0; k < words; k++) {
                if ((lanes[i * WORDS + k] & ~lanes[j * WORDS + k]) != 0) {
                    return true;
                }
            }
            return false;
        }

        private long failures(int word) {
            long failures = 0;
            for (int w = 0; w + 1 < wireCount; w++) {
                failures |= lanes[w * WORDS + word] & ~lanes[(w + 1) * WORDS + word];
            }
            return failures;
        }

        int lowestFailure() {
            for (int k = 0; k < words; k++) {
                long failures = failures(k);
                if (failures != 0) {
                    long belowLowest = ~failures & failures - 1;
                    return k * WORD_BITS + Long.bitCount(belowLowest);
                }
            }
            return NOWHERE;
        }

        int valueAt(int wire, int input) {
            return (int) (lanes[wire * WORDS + input / WORD_BITS] >>> input % WORD_BITS & 1);
        }

        int outputFor(int input) {
            int bits = 0;
            for (int w = 0; w < wireCount; w++) {
                bits |= valueAt(w, input) << w;
            }
            return bits;
        }

        /** Wire k has the value k always if, for each limit, it has 1 just when k reaches the limit. */
        boolean selects(int wire) {
            for (int x = 0; x < 1 << wireCount; x++) {
                int limit = wireCount - Integer.bitCount(x);
                if (valueAt(wire, x) != oneIf(wire >= limit)) {
                    return false;
                }
            }
            return true;
        }
    }

    /** The outputs of a network, each once. */
    private static final class OutputSet {
        final boolean[] has = new boolean[INPUTS];
        final int[] members = new int[INPUTS];
        int wireCount = LEAST_WIRES;
        int count = 0;

        void gather(Sweep sweep) {
            wireCount = sweep.wireCount;
            count = 0;
            for (int x = 0; x < INPUTS; x++) {
                has[x] = false;
            }
            for (int x = 0; x < 1 << wireCount; x++) {
                int output = sweep.outputFor(x);
                if (!has[output]) {
                    has[output] = true;
                    members[count] = output;
                    count++;
                }
            }
        }

        boolean equalTo(OutputSet other) {
            for (int x = 0; x < INPUTS; x++) {
                if (has[x] != other.has[x]) {
                    return false;
                }
            }
            return true;
        }

        /** An exchange maps outputs one to one, so an output is lost only where it meets one that was there. */
        int countAfter(int i, int j) {
            int lost = 0;
            for (int m = 0; m < count; m++) {
                int next = exchanged(members[m], i, j);
                if (next != members[m] && has[next]) {
                    lost++;
                }
            }
            return count - lost;
        }
    }

    /** The comparators (i, j) with i less than j that could be appended to a network, and what they would do. */
    private static final class Extensions {
        final int[] firstWire = new int[PAIRS];
        final int[] secondWire = new int[PAIRS];
        final int[] outputsThen = new int[PAIRS];
        int count = 0;
        final int[] unsorted = new int[INPUTS];
        final int[] unsortedThen = new int[INPUTS];

        void rankAll(OutputSet outputs) {
            count = 0;
            for (int i = 0; i < outputs.wireCount; i++) {
                for (int j = i + 1; j < outputs.wireCount; j++) {
                    rankOne(i, j, outputs.countAfter(i, j));
                }
            }
        }

        /** They come in the order of 10 * i + j, which must stay among those with as many outputs. */
        private void rankOne(int i, int j, int outputs) {
            if (count >= PAIRS) {
                return;
            }
            int at = count;
            while (at > 0 && outputsThen[at - 1] > outputs) {
                firstWire[at] = firstWire[at - 1];
                secondWire[at] = secondWire[at - 1];
                outputsThen[at] = outputsThen[at - 1];
                at--;
            }
            firstWire[at] = i;
            secondWire[at] = j;
            outputsThen[at] = outputs;
            count++;
        }

        int codeAt(int rank) {
            return rank >= 0 && rank < count ? 10 * firstWire[rank] + secondWire[rank] : BAD_VALUE;
        }

        int outputsAt(int rank) {
            return rank >= 0 && rank < count ? outputsThen[rank] : BAD_VALUE;
        }

        /**
         * Answers how many comparators must be appended to sort all outputs, or most + 1 if that is more than most.
         * Only unsorted outputs are followed: no comparator (i, j) with i less than j changes a sorted one.
         */
        int leastToSort(OutputSet outputs, int most) {
            int left = 0;
            for (int m = 0; m < outputs.count; m++) {
                if (!isSorted(outputs.members[m], outputs.wireCount)) {
                    unsorted[left] = outputs.members[m];
                    left++;
                }
            }
            if (left == 0) {
                return 0;
            }
            if (most >= 1 && oneSorts(unsorted, left, outputs.wireCount)) {
                return 1;
            }
            return most >= 2 && twoSort(left, outputs.wireCount) ? 2 : most + 1;
        }

        private static boolean oneSorts(int[] row, int length, int wireCount) {
            for (int i = 0; i < wireCount; i++) {
                for (int j = i + 1; j < wireCount; j++) {
                    if (pairSorts(row, length, wireCount, i, j)) {
                        return true;
                    }
                }
            }
            return false;
        }

        private static boolean pairSorts(int[] row, int length, int wireCount, int i, int j) {
            for (int m = 0; m < length; m++) {
                if (!isSorted(exchanged(row[m], i, j), wireCount)) {
                    return false;
                }
            }
            return true;
        }

        private boolean twoSort(int left, int wireCount) {
            for (int i = 0; i < wireCount; i++) {
                for (int j = i + 1; j < wireCount; j++) {
                    int leftThen = keepUnsorted(left, wireCount, i, j);
                    if (oneSorts(unsortedThen, leftThen, wireCount)) {
                        return true;
                    }
                }
            }
            return false;
        }

        private int keepUnsorted(int left, int wireCount, int i, int j) {
            int leftThen = 0;
            for (int m = 0; m < left; m++) {
                int next = exchanged(unsorted[m], i, j);
                if (!isSorted(next, wireCount)) {
                    unsortedThen[leftThen] = next;
                    leftThen++;
                }
            }
            return leftThen;
        }
    }

    /**
     * Answers about all permutation inputs, without listing them. For each limit, the wires whose value reaches the
     * limit form a set, and with falling limits these sets grow by one wire at a time, from none to all: a chain,
     * and each chain belongs to one permutation. A set is a zero-one input, and what the network makes of it shows
     * which values reach the limit at the end. So an answer for all permutations is one for all chains, and is
     * gathered set by set, each from the sets with one wire less.
     */
    private static final class Chains {
        private static final int[] FACTORIALS = {1, 1, 2, 6, 24, 120, 720, 5040, 40320};

        final int[] best = new int[INPUTS];
        final long[] exchanges = new long[INPUTS];

        /** A permutation gets sorted if all sets of its chain do. */
        int countWithoutFailure(Sweep sweep) {
            int all = (1 << sweep.wireCount) - 1;
            best[0] = 1;
            for (int x = 1; x <= all; x++) {
                best[x] = 0;
                if (isSorted(sweep.outputFor(x), sweep.wireCount)) {
                    for (int w = 0; w < sweep.wireCount; w++) {
                        best[x] += (x >> w & 1) == 1 ? best[x ^ 1 << w] : 0;
                    }
                }
            }
            return best[all];
        }

        int leastWithFailure(Sweep sweep) {
            int least = NONE;
            for (int x = 0; x < 1 << sweep.wireCount; x++) {
                if (!isSorted(sweep.outputFor(x), sweep.wireCount)) {
                    int number = leastThrough(x, sweep.wireCount);
                    least = least == NONE ? number : Math.min(least, number);
                }
            }
            return least;
        }

        /** The first permutation whose chain has a set: both parts of the wires take their values ascending. */
        private static int leastThrough(int set, int wireCount) {
            int low = 0;
            int high = wireCount - Integer.bitCount(set);
            int number = 0;
            for (int w = 0; w < wireCount; w++) {
                boolean inSet = (set >> w & 1) == 1;
                number = 10 * number + (inSet ? high : low);
                high += inSet ? 1 : 0;
                low += inSet ? 0 : 1;
            }
            return number;
        }

        private void noteExchanges(Network net) {
            for (int x = 0; x < 1 << net.wireCount; x++) {
                exchanges[x] = net.exchangesFor(x);
            }
        }

        /**
         * A comparator exchanges two values if it does so for the limits above the smaller one up to the greater
         * one. These follow one another in the chain, so the exchange is counted where they begin.
         */
        private int begun(int smaller, int larger) {
            return Long.bitCount(exchanges[larger] & ~exchanges[smaller]);
        }

        long allExchanges(Network net) {
            noteExchanges(net);
            int all = (1 << net.wireCount) - 1;
            long total = 0;
            for (int x = 0; x < all; x++) {
                int inSet = Integer.bitCount(x);
                long chainsThrough = FACTORIALS[inSet] * FACTORIALS[net.wireCount - 1 - inSet];
                for (int w = 0; w < net.wireCount; w++) {
                    total += (x >> w & 1) == 0 ? chainsThrough * begun(x, x | 1 << w) : 0;
                }
            }
            return total;
        }

        int greatestExchanges(Network net) {
            noteExchanges(net);
            int all = (1 << net.wireCount) - 1;
            best[0] = 0;
            for (int x = 1; x <= all; x++) {
                best[x] = 0;
                for (int w = 0; w < net.wireCount; w++) {
                    if ((x >> w & 1) == 1) {
                        int smaller = x ^ 1 << w;
                        best[x] = Math.max(best[x], best[smaller] + begun(smaller, x));
                    }
                }
            }
            return best[all];
        }
    }

    /** A search for new numbers of the wires. */
    private static final class Renaming {
        final int[] target = new int[MOST_WIRES];
        final int[] source = new int[MOST_WIRES];

        /** Each comparator settles the new numbers of its wires; wires without comparators can take what is left. */
        boolean makes(Network from, Network to) {
            if (from.count != to.count) {
                return false;
            }
            Arrays.fill(target, NOWHERE);
            Arrays.fill(source, NOWHERE);
            for (int p = 0; p < from.count; p++) {
                if (!link(from.first[p], to.first[p]) || !link(from.second[p], to.second[p])) {
                    return false;
                }
            }
            return true;
        }

        private boolean link(int wire, int newWire) {
            if (target[wire] == NOWHERE && source[newWire] == NOWHERE) {
                target[wire] = newWire;
                source[newWire] = wire;
            }
            return target[wire] == newWire;
        }

        boolean putsInto(OutputSet from, OutputSet to) {
            return search(from, to, target, 0, 0);
        }

        /** Gives new numbers to the wires from this one on, of those that are not taken, until one choice fits. */
        private static boolean search(OutputSet from, OutputSet to, int[] target, int wire, int taken) {
            if (wire >= from.wireCount || wire >= target.length) {
                return movesInto(from, to, target);
            }
            for (int t = 0; t < from.wireCount; t++) {
                if ((taken >> t & 1) == 0) {
                    target[wire] = t;
                    if (search(from, to, target, wire + 1, taken | 1 << t)) {
                        return true;
                    }
                }
            }
            return false;
        }

        private static boolean movesInto(OutputSet from, OutputSet to, int[] target) {
            for (int m = 0; m < from.count; m++) {
                int moved = 0;
                for (int w = 0; w < from.wireCount; w++) {
                    moved |= (from.members[m] >> w & 1) << target[w];
                }
                if (!to.has[moved]) {
                    return false;
                }
            }
            return true;
        }
    }
}
