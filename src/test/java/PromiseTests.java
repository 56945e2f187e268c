/** The promises of the document one by one: ordinary inputs, the edges it names, wrong inputs and their order. */
public final class PromiseTests {
    private static final int NO_SUCH_ELEMENT = -1;
    private static final int BAD_VALUE = -2;
    private static final int FULL = -3;
    private static final int NONE = -4;
    private static final int STATE = -5;
    private static final int TOO_LARGE = -6;
    private static final int EMPTY = -7;
    private static final int WRONG_TYPE = -8;
    private static final int LOWEST = Integer.MIN_VALUE;
    private static final int HIGHEST = Integer.MAX_VALUE;

    private static int wrong = 0;
    private static int promise = 0;

    private static void due(String call, long got, long want) {
        if (got != want) {
            wrong++;
            System.out.println("promise " + promise + ": " + call + " answered " + got + ", due is " + want);
        }
    }

    private static ComparatorNetworks begin(int number) {
        promise = number;
        return new ComparatorNetworks();
    }

    /** A network with these comparators, each written as 10 * i + j. */
    private static void make(ComparatorNetworks x, int network, int wires, int... codes) {
        x.reset(network, wires);
        for (int code : codes) {
            x.add(network, code / 10, code % 10);
        }
    }

    private static void dueNetwork(ComparatorNetworks x, int network, int wires, int... codes) {
        due("wires(" + network + ")", x.wires(network), wires);
        due("size(" + network + ")", x.size(network), codes.length);
        for (int p = 0; p < codes.length; p++) {
            due("comparator(" + network + ", " + p + ")", x.comparator(network, p), codes[p]);
        }
    }

    private static void write(ComparatorNetworks x, String text) {
        for (int k = 0; k < text.length(); k++) {
            x.append(text.charAt(k));
        }
    }

    private static void dueParse(ComparatorNetworks x, int network, String text, int want) {
        write(x, text);
        due("parse(" + network + ") of " + text, x.parse(network), want);
        due("clearText() after " + text, x.clearText(), 0);
    }

    private static void fill(ComparatorNetworks x, int network, int wires, int count) {
        x.reset(network, wires);
        for (int k = 0; k < count; k++) {
            x.add(network, 0, 1);
        }
    }

    public static void main(String[] args) {
        newObject();
        reset();
        wiresAndSize();
        comparator();
        add();
        insert();
        remove();
        layerAndDepth();
        appendAndClear();
        parse();
        setKey();
        run();
        resultAndOrigin();
        isStable();
        outputCount();
        outputOf();
        isSorter();
        firstFailure();
        isSelector();
        countSorted();
        firstUnsorted();
        exchanges();
        isRedundant();
        prune();
        reduce();
        standardize();
        mirror();
        candidate();
        grow();
        missing();
        sameOutputs();
        isIsomorphic();
        subsumes();
        build();
        isMerger();
        concatenate();
        beside();
        undo();
        undoOfEveryChange();
        place();
        discard();
        castBlock();
        blockSize();
        applyBlock();
        fullNetworks();
        System.out.println(wrong == 0 ? "all promises hold" : wrong + " answers are not as due");
        if (wrong != 0) System.exit(1);
    }

    private static void newObject() {
        ComparatorNetworks x = begin(1);
        for (int network = 0; network < 4; network++) {
            dueNetwork(x, network, 2);
        }
        for (int key = 0; key < 8; key++) {
            due("setKey(" + key + ", 1)", x.setKey(key, 1), 0);
        }
        for (int shelf = 0; shelf < 3; shelf++) {
            due("discard(" + shelf + ")", x.discard(shelf), EMPTY);
        }
        due("clearText()", x.clearText(), 0);
        due("undo()", x.undo(), NONE);
        due("isStable()", x.isStable(), STATE);
        ComparatorNetworks other = new ComparatorNetworks();
        x.reset(1, 5);
        due("wires(1) of another object", other.wires(1), 2);
    }

    private static void reset() {
        ComparatorNetworks x = begin(2);
        due("reset(0, 8)", x.reset(0, 8), 0);
        make(x, 0, 8, 7, 12);
        due("reset(0, 2)", x.reset(0, 2), 2);
        dueNetwork(x, 0, 2);
        due("reset(3, 3)", x.reset(3, 3), 0);
        dueNetwork(x, 3, 3);
        x.add(3, 2, 0);
        due("reset(3, 1)", x.reset(3, 1), BAD_VALUE);
        due("reset(3, 9)", x.reset(3, 9), BAD_VALUE);
        due("reset(3, lowest)", x.reset(3, LOWEST), BAD_VALUE);
        due("reset(4, 9)", x.reset(4, 9), NO_SUCH_ELEMENT);
        due("reset(-1, 3)", x.reset(-1, 3), NO_SUCH_ELEMENT);
        dueNetwork(x, 3, 3, 20);
    }

    private static void wiresAndSize() {
        ComparatorNetworks x = begin(3);
        for (int n = 2; n <= 8; n++) {
            x.reset(n % 4, n);
            due("wires", x.wires(n % 4), n);
        }
        due("wires(-1)", x.wires(-1), NO_SUCH_ELEMENT);
        due("wires(4)", x.wires(4), NO_SUCH_ELEMENT);
        due("wires(highest)", x.wires(HIGHEST), NO_SUCH_ELEMENT);
        promise = 4;
        fill(x, 2, 3, 40);
        due("size(2)", x.size(2), 40);
        due("size(1)", x.size(1), 0);
        due("size(-1)", x.size(-1), NO_SUCH_ELEMENT);
        due("size(4)", x.size(4), NO_SUCH_ELEMENT);
        due("size(lowest)", x.size(LOWEST), NO_SUCH_ELEMENT);
    }

    private static void comparator() {
        ComparatorNetworks x = begin(5);
        make(x, 0, 8, 7, 70, 56);
        due("comparator(0, 0)", x.comparator(0, 0), 7);
        due("comparator(0, 1)", x.comparator(0, 1), 70);
        due("comparator(0, 2)", x.comparator(0, 2), 56);
        due("comparator(0, 3)", x.comparator(0, 3), NO_SUCH_ELEMENT);
        due("comparator(0, -1)", x.comparator(0, -1), NO_SUCH_ELEMENT);
        due("comparator(1, 0)", x.comparator(1, 0), NO_SUCH_ELEMENT);
        due("comparator(4, 0)", x.comparator(4, 0), NO_SUCH_ELEMENT);
        due("comparator(-1, 0)", x.comparator(-1, 0), NO_SUCH_ELEMENT);
        x.reset(0, 8);
        due("comparator(0, 0) after reset", x.comparator(0, 0), NO_SUCH_ELEMENT);
        due("comparator(0, highest)", x.comparator(0, HIGHEST), NO_SUCH_ELEMENT);
    }

    private static void add() {
        ComparatorNetworks x = begin(6);
        x.reset(1, 3);
        due("add(1, 2, 0)", x.add(1, 2, 0), 1);
        due("add(1, 0, 2)", x.add(1, 0, 2), 2);
        due("add(1, 3, 0)", x.add(1, 3, 0), NO_SUCH_ELEMENT);
        due("add(1, 0, 3)", x.add(1, 0, 3), NO_SUCH_ELEMENT);
        due("add(1, -1, 0)", x.add(1, -1, 0), NO_SUCH_ELEMENT);
        due("add(1, 0, -1)", x.add(1, 0, -1), NO_SUCH_ELEMENT);
        due("add(1, 3, 3)", x.add(1, 3, 3), NO_SUCH_ELEMENT);
        due("add(1, 2, 2)", x.add(1, 2, 2), BAD_VALUE);
        due("add(4, 0, 1)", x.add(4, 0, 1), NO_SUCH_ELEMENT);
        due("add(-1, 1, 1)", x.add(-1, 1, 1), NO_SUCH_ELEMENT);
        dueNetwork(x, 1, 3, 20, 2);
        fill(x, 1, 3, 39);
        due("add(1, 1, 2) as the 40th", x.add(1, 1, 2), 40);
        due("add(1, 1, 2) as the 41st", x.add(1, 1, 2), FULL);
        due("add(1, 1, 1) when full", x.add(1, 1, 1), BAD_VALUE);
        due("add(1, 1, 3) when full", x.add(1, 1, 3), NO_SUCH_ELEMENT);
        due("size(1)", x.size(1), 40);
        due("comparator(1, 39)", x.comparator(1, 39), 12);
    }

    private static void insert() {
        ComparatorNetworks x = begin(7);
        x.reset(0, 4);
        due("insert(0, 0, 0, 1)", x.insert(0, 0, 0, 1), 1);
        due("insert(0, 1, 2, 3)", x.insert(0, 1, 2, 3), 2);
        due("insert(0, 0, 3, 0)", x.insert(0, 0, 3, 0), 3);
        due("insert(0, 1, 1, 2)", x.insert(0, 1, 1, 2), 4);
        dueNetwork(x, 0, 4, 30, 12, 1, 23);
        due("insert(0, 5, 0, 1)", x.insert(0, 5, 0, 1), NO_SUCH_ELEMENT);
        due("insert(0, -1, 0, 1)", x.insert(0, -1, 0, 1), NO_SUCH_ELEMENT);
        due("insert(0, 0, 4, 4)", x.insert(0, 0, 4, 4), NO_SUCH_ELEMENT);
        due("insert(0, 5, 1, 1)", x.insert(0, 5, 1, 1), NO_SUCH_ELEMENT);
        due("insert(0, 4, 1, 1)", x.insert(0, 4, 1, 1), BAD_VALUE);
        due("insert(4, 0, 0, 1)", x.insert(4, 0, 0, 1), NO_SUCH_ELEMENT);
        dueNetwork(x, 0, 4, 30, 12, 1, 23);
        fill(x, 0, 4, 39);
        due("insert(0, 0, 3, 2) as the 40th", x.insert(0, 0, 3, 2), 40);
        due("insert(0, 0, 3, 2) as the 41st", x.insert(0, 0, 3, 2), FULL);
        due("insert(0, 40, 3, 2) as the 41st", x.insert(0, 40, 3, 2), FULL);
        due("insert(0, 41, 3, 2) when full", x.insert(0, 41, 3, 2), NO_SUCH_ELEMENT);
        due("insert(0, 0, 3, 3) when full", x.insert(0, 0, 3, 3), BAD_VALUE);
        due("comparator(0, 0)", x.comparator(0, 0), 32);
        due("comparator(0, 39)", x.comparator(0, 39), 1);
    }

    private static void remove() {
        ComparatorNetworks x = begin(8);
        make(x, 0, 4, 1, 23, 2, 13);
        due("remove(0, 1)", x.remove(0, 1), 23);
        dueNetwork(x, 0, 4, 1, 2, 13);
        due("remove(0, 2)", x.remove(0, 2), 13);
        due("remove(0, 2)", x.remove(0, 2), NO_SUCH_ELEMENT);
        due("remove(0, -1)", x.remove(0, -1), NO_SUCH_ELEMENT);
        due("remove(4, 0)", x.remove(4, 0), NO_SUCH_ELEMENT);
        due("remove(-1, 0)", x.remove(-1, 0), NO_SUCH_ELEMENT);
        due("remove(0, 0)", x.remove(0, 0), 1);
        due("remove(0, 0)", x.remove(0, 0), 2);
        due("remove(0, 0)", x.remove(0, 0), NO_SUCH_ELEMENT);
        fill(x, 0, 2, 40);
        due("remove(0, 39)", x.remove(0, 39), 1);
        due("add after remove", x.add(0, 1, 0), 40);
    }

    private static void layerAndDepth() {
        ComparatorNetworks x = begin(9);
        make(x, 0, 6, 1, 23, 12, 45, 35, 10);
        int[] layers = {0, 0, 1, 0, 1, 2};
        for (int p = 0; p < layers.length; p++) {
            due("layer(0, " + p + ")", x.layer(0, p), layers[p]);
        }
        due("layer(0, 6)", x.layer(0, 6), NO_SUCH_ELEMENT);
        due("layer(0, -1)", x.layer(0, -1), NO_SUCH_ELEMENT);
        due("layer(4, 0)", x.layer(4, 0), NO_SUCH_ELEMENT);
        due("layer(-1, 0)", x.layer(-1, 0), NO_SUCH_ELEMENT);
        fill(x, 1, 2, 40);
        due("layer(1, 39)", x.layer(1, 39), 39);
        promise = 10;
        due("depth(0)", x.depth(0), 3);
        due("depth(1)", x.depth(1), 40);
        due("depth(2)", x.depth(2), 0);
        due("depth(4)", x.depth(4), NO_SUCH_ELEMENT);
        due("depth(-1)", x.depth(-1), NO_SUCH_ELEMENT);
    }

    private static void appendAndClear() {
        ComparatorNetworks x = begin(11);
        due("append(32)", x.append(32), BAD_VALUE);
        due("append(33)", x.append(33), 1);
        due("append(126)", x.append(126), 2);
        due("append(127)", x.append(127), BAD_VALUE);
        due("append(-1)", x.append(-1), BAD_VALUE);
        for (int k = 3; k <= 60; k++) {
            due("append(48)", x.append(48), k);
        }
        due("append(48) as the 61st", x.append(48), FULL);
        due("append(32) when full", x.append(32), BAD_VALUE);
        promise = 12;
        due("clearText()", x.clearText(), 60);
        due("clearText()", x.clearText(), 0);
        due("append(48)", x.append(48), 1);
        due("clearText()", x.clearText(), 1);
    }

    private static void parse() {
        ComparatorNetworks x = begin(13);
        make(x, 0, 4, 32);
        dueParse(x, 0, "0:1,2:3;3:0", 3);
        dueNetwork(x, 0, 4, 1, 23, 30);
        dueParse(x, 0, "", -100);
        dueParse(x, 0, "x", -100);
        dueParse(x, 0, "4:0", -100);
        dueParse(x, 0, "0", -101);
        dueParse(x, 0, "0;1", -101);
        dueParse(x, 0, "0:", -102);
        dueParse(x, 0, "0::", -102);
        dueParse(x, 0, "0:0", -102);
        dueParse(x, 0, "0:4", -102);
        dueParse(x, 0, "0:9", -102);
        dueParse(x, 0, "0:1:", -103);
        dueParse(x, 0, "0:12:3", -103);
        dueParse(x, 0, "0:1,", -104);
        dueParse(x, 0, "0:1;", -104);
        dueParse(x, 0, "0:1,0:2", -104);
        dueParse(x, 0, "0:1,2:0", -106);
        dueParse(x, 0, "0:1,2:1", -106);
        dueParse(x, 0, "0:1,2:3,", -108);
        dueParse(x, 0, "0:1,2:3,0:1", -108);
        dueParse(x, 0, "0:1;0:1;;", -108);
        dueNetwork(x, 0, 4, 1, 23, 30);
        dueParse(x, 0, "3:2", 1);
        dueNetwork(x, 0, 4, 32);
        dueParse(x, 1, "0:2", -102);
        dueParse(x, 1, "1:0;0:1", 2);
        dueNetwork(x, 1, 2, 10, 1);
        x.reset(2, 8);
        dueParse(x, 2, "0:1,2:3,4:5,6:7;7:0", 5);
        due("comparator(2, 4)", x.comparator(2, 4), 70);
        StringBuilder longest = new StringBuilder("0:1");
        for (int k = 1; k < 15; k++) {
            longest.append(k % 2 == 0 ? ";0:1" : ";1:0");
        }
        dueParse(x, 2, longest.toString(), 15);
        due("depth(2)", x.depth(2), 15);
        dueParse(x, 2, longest + ";", -160);
        dueParse(x, 4, "0:1", NO_SUCH_ELEMENT);
        dueParse(x, -1, "0:1", NO_SUCH_ELEMENT);
        due("size(2)", x.size(2), 15);
    }

    private static void setKey() {
        ComparatorNetworks x = begin(14);
        due("setKey(7, 99)", x.setKey(7, 99), 0);
        due("setKey(7, 0)", x.setKey(7, 0), 99);
        due("setKey(7, 5)", x.setKey(7, 5), 0);
        due("setKey(7, 100)", x.setKey(7, 100), BAD_VALUE);
        due("setKey(7, -1)", x.setKey(7, -1), BAD_VALUE);
        due("setKey(8, -1)", x.setKey(8, -1), NO_SUCH_ELEMENT);
        due("setKey(-1, 100)", x.setKey(-1, 100), NO_SUCH_ELEMENT);
        due("setKey(7, 6)", x.setKey(7, 6), 5);
        due("setKey(0, 1)", x.setKey(0, 1), 0);
    }

    private static void setKeys(ComparatorNetworks x, int... values) {
        for (int k = 0; k < values.length; k++) {
            x.setKey(k, values[k]);
        }
    }

    private static void run() {
        ComparatorNetworks x = begin(15);
        setKeys(x, 9, 7, 7, 1);
        make(x, 0, 4, 1, 23, 2, 13, 12);
        due("run(0)", x.run(0), 4);
        due("run(4)", x.run(4), NO_SUCH_ELEMENT);
        due("run(-1)", x.run(-1), NO_SUCH_ELEMENT);
        due("result(3)", x.result(3), 9);
        make(x, 1, 4, 10, 21, 32);
        due("run(1) against the order", x.run(1), 0);
        due("result(0)", x.result(0), 9);
        make(x, 2, 3, 1, 10, 1);
        due("run(2) to and fro", x.run(2), 3);
        due("run(3) without comparators", x.run(3), 0);
        due("result(1)", x.result(1), 7);
    }

    private static void resultAndOrigin() {
        ComparatorNetworks x = begin(16);
        due("result(0)", x.result(0), STATE);
        due("result(-1)", x.result(-1), STATE);
        promise = 17;
        due("origin(0)", x.origin(0), STATE);
        due("origin(9)", x.origin(9), STATE);
        setKeys(x, 30, 20, 10, 40);
        x.build(0, 3, 0);
        due("run(4)", x.run(4), NO_SUCH_ELEMENT);
        due("origin(0) after a run that failed", x.origin(0), STATE);
        due("run(0)", x.run(0), 3);
        x.reset(0, 8);
        setKeys(x, 1, 2, 3);
        x.undo();
        for (int w = 0; w < 3; w++) {
            promise = 16;
            due("result(" + w + ")", x.result(w), 10 * (w + 1));
            promise = 17;
            due("origin(" + w + ")", x.origin(w), 2 - w);
        }
        due("origin(3)", x.origin(3), NO_SUCH_ELEMENT);
        due("origin(-1)", x.origin(-1), NO_SUCH_ELEMENT);
        promise = 16;
        due("result(3)", x.result(3), NO_SUCH_ELEMENT);
        due("result(-1)", x.result(-1), NO_SUCH_ELEMENT);
        due("run(1)", x.run(1), 0);
        due("result(1) of the next run", x.result(1), 2);
        due("result(2) of the next run", x.result(2), NO_SUCH_ELEMENT);
    }

    private static void isStable() {
        ComparatorNetworks x = begin(18);
        due("isStable()", x.isStable(), STATE);
        setKeys(x, 5, 5, 3);
        make(x, 0, 3, 2);
        x.run(0);
        due("isStable() with 3, 5, 5 from 2, 1, 0", x.isStable(), 0);
        x.build(0, 3, 0);
        x.run(0);
        due("isStable() by insertion", x.isStable(), 1);
        setKeys(x, 5, 1, 5);
        make(x, 0, 3);
        x.run(0);
        due("isStable() when unsorted", x.isStable(), 1);
        setKeys(x, 5, 4, 3, 5);
        make(x, 0, 4, 2, 12, 13, 32);
        x.run(0);
        due("result(0)", x.result(0), 3);
        due("result(1)", x.result(1), 4);
        due("origin(2)", x.origin(2), 0);
        due("origin(3)", x.origin(3), 3);
        due("isStable()", x.isStable(), 1);
        setKeys(x, 2, 1, 2, 1);
        make(x, 0, 4, 3);
        x.run(0);
        due("isStable() of 1, 1, 2, 2 from 3, 1, 2, 0", x.isStable(), 0);
        x.setKey(0, 3);
        x.reset(0, 2);
        due("isStable() after other changes", x.isStable(), 0);
        make(x, 1, 4, 10, 1);
        setKeys(x, 6, 7, 6, 7);
        x.run(1);
        due("isStable() of values that are apart", x.isStable(), 1);
        make(x, 1, 3, 10, 2);
        setKeys(x, 6, 7, 6);
        x.run(1);
        due("isStable() of 6, 6, 7 from 2, 0, 1", x.isStable(), 0);
        make(x, 1, 4, 10, 21, 3);
        setKeys(x, 6, 7, 6, 9);
        x.run(1);
        due("isStable()", x.isStable(), 1);
    }

    private static void outputCount() {
        ComparatorNetworks x = begin(19);
        for (int n = 2; n <= 8; n++) {
            x.reset(0, n);
            due("outputCount(0) without comparators", x.outputCount(0), 1 << n);
            x.build(1, n, 3);
            due("outputCount(1) of a sorter", x.outputCount(1), n + 1);
        }
        make(x, 2, 8, 1, 23, 45, 67);
        due("outputCount(2)", x.outputCount(2), 81);
        make(x, 2, 4, 10);
        due("outputCount(2)", x.outputCount(2), 12);
        due("outputCount(4)", x.outputCount(4), NO_SUCH_ELEMENT);
        due("outputCount(-1)", x.outputCount(-1), NO_SUCH_ELEMENT);
    }

    private static void outputOf() {
        ComparatorNetworks x = begin(20);
        make(x, 0, 4, 1, 23, 2, 13);
        due("outputOf(0, 0)", x.outputOf(0, 0), 0);
        due("outputOf(0, 1)", x.outputOf(0, 1), 8);
        due("outputOf(0, 3)", x.outputOf(0, 3), 12);
        due("outputOf(0, 5)", x.outputOf(0, 5), 10);
        due("outputOf(0, 15)", x.outputOf(0, 15), 15);
        due("outputOf(0, 16)", x.outputOf(0, 16), BAD_VALUE);
        due("outputOf(0, -1)", x.outputOf(0, -1), BAD_VALUE);
        due("outputOf(0, lowest)", x.outputOf(0, LOWEST), BAD_VALUE);
        due("outputOf(4, 16)", x.outputOf(4, 16), NO_SUCH_ELEMENT);
        due("outputOf(-1, 0)", x.outputOf(-1, 0), NO_SUCH_ELEMENT);
        make(x, 1, 8, 70);
        due("outputOf(1, 128)", x.outputOf(1, 128), 1);
        due("outputOf(1, 1)", x.outputOf(1, 1), 1);
        due("outputOf(1, 255)", x.outputOf(1, 255), 255);
        due("outputOf(1, 256)", x.outputOf(1, 256), BAD_VALUE);
    }

    private static void isSorter() {
        ComparatorNetworks x = begin(21);
        for (int n = 2; n <= 8; n++) {
            x.build(0, n, 0);
            due("isSorter(0) of " + n + " wires", x.isSorter(0), 1);
            x.remove(0, 0);
            due("isSorter(0) with one comparator less", x.isSorter(0), 0);
        }
        make(x, 1, 2, 10);
        due("isSorter(1) the wrong way", x.isSorter(1), 0);
        make(x, 1, 2, 10, 1);
        due("isSorter(1)", x.isSorter(1), 1);
        make(x, 1, 8);
        due("isSorter(1) without comparators", x.isSorter(1), 0);
        due("isSorter(4)", x.isSorter(4), NO_SUCH_ELEMENT);
        due("isSorter(-1)", x.isSorter(-1), NO_SUCH_ELEMENT);
    }

    private static void firstFailure() {
        ComparatorNetworks x = begin(22);
        for (int n = 2; n <= 8; n++) {
            x.reset(0, n);
            due("firstFailure(0) without comparators", x.firstFailure(0), 1);
            x.build(0, n, 1);
            due("firstFailure(0) of a sorter", x.firstFailure(0), NONE);
        }
        make(x, 1, 4, 1, 23, 2, 13);
        due("firstFailure(1)", x.firstFailure(1), 5);
        make(x, 1, 2, 10);
        due("firstFailure(1) the wrong way", x.firstFailure(1), 1);
        make(x, 1, 3, 1, 12, 1, 10);
        due("firstFailure(1)", x.firstFailure(1), 3);
        x.build(1, 8, 0);
        x.add(1, 1, 0);
        due("firstFailure(1) with all inputs below 127 sorted", x.firstFailure(1), 127);
        due("firstFailure(4)", x.firstFailure(4), NO_SUCH_ELEMENT);
        due("firstFailure(-1)", x.firstFailure(-1), NO_SUCH_ELEMENT);
    }

    private static void isSelector() {
        ComparatorNetworks x = begin(23);
        make(x, 0, 4, 1, 23, 2);
        due("isSelector(0, 0)", x.isSelector(0, 0), 1);
        due("isSelector(0, 1)", x.isSelector(0, 1), 0);
        due("isSelector(0, 3)", x.isSelector(0, 3), 0);
        x.add(0, 1, 3);
        due("isSelector(0, 3)", x.isSelector(0, 3), 1);
        due("isSelector(0, 4)", x.isSelector(0, 4), NO_SUCH_ELEMENT);
        due("isSelector(0, -1)", x.isSelector(0, -1), NO_SUCH_ELEMENT);
        due("isSelector(4, 0)", x.isSelector(4, 0), NO_SUCH_ELEMENT);
        due("isSelector(-1, 0)", x.isSelector(-1, 0), NO_SUCH_ELEMENT);
        x.build(1, 8, 2);
        for (int w = 0; w < 8; w++) {
            due("isSelector(1, " + w + ")", x.isSelector(1, w), 1);
        }
        x.add(1, 4, 3);
        for (int w = 0; w < 8; w++) {
            due("isSelector(1, " + w + ")", x.isSelector(1, w), w == 3 || w == 4 ? 0 : 1);
        }
    }

    private static void countSorted() {
        ComparatorNetworks x = begin(24);
        int factorial = 1;
        for (int n = 2; n <= 8; n++) {
            factorial *= n;
            x.reset(0, n);
            due("countSorted(0) without comparators", x.countSorted(0), 1);
            x.add(0, 0, 1);
            due("countSorted(0) with one comparator", x.countSorted(0), 2);
            x.build(0, n, 2);
            due("countSorted(0) of a sorter", x.countSorted(0), factorial);
        }
        make(x, 1, 4, 1, 23, 2, 13);
        due("countSorted(1)", x.countSorted(1), 8);
        make(x, 1, 3, 10);
        due("countSorted(1)", x.countSorted(1), 0);
        due("countSorted(4)", x.countSorted(4), NO_SUCH_ELEMENT);
        due("countSorted(-1)", x.countSorted(-1), NO_SUCH_ELEMENT);
    }

    private static void firstUnsorted() {
        ComparatorNetworks x = begin(25);
        due("firstUnsorted(0)", x.firstUnsorted(0), 10);
        x.reset(0, 3);
        due("firstUnsorted(0)", x.firstUnsorted(0), 21);
        x.reset(0, 8);
        due("firstUnsorted(0)", x.firstUnsorted(0), 1234576);
        x.build(0, 8, 3);
        due("firstUnsorted(0) of a sorter", x.firstUnsorted(0), NONE);
        make(x, 1, 4, 1, 23, 2, 13);
        due("firstUnsorted(1)", x.firstUnsorted(1), 213);
        make(x, 1, 2, 10);
        due("firstUnsorted(1)", x.firstUnsorted(1), 1);
        make(x, 1, 3, 1, 2, 12, 10);
        due("firstUnsorted(1)", x.firstUnsorted(1), 12);
        make(x, 2, 3, 12, 1);
        due("firstUnsorted(2)", x.firstUnsorted(2), 201);
        due("firstUnsorted(4)", x.firstUnsorted(4), NO_SUCH_ELEMENT);
        due("firstUnsorted(-1)", x.firstUnsorted(-1), NO_SUCH_ELEMENT);
    }

    private static void exchanges() {
        ComparatorNetworks x = begin(26);
        make(x, 0, 4, 1, 23, 2, 13, 12);
        due("totalExchanges(0)", x.totalExchanges(0), 64);
        due("totalExchanges(1)", x.totalExchanges(1), 0);
        x.build(1, 8, 1);
        due("totalExchanges(1), all inversions", x.totalExchanges(1), 40320L * 28 / 2);
        x.reset(2, 8);
        for (int k = 0; k < 20; k++) {
            x.add(2, 0, 1);
            x.add(2, 1, 0);
        }
        due("totalExchanges(2)", x.totalExchanges(2), 40320L / 2 + 40320L * 39);
        due("totalExchanges(4)", x.totalExchanges(4), NO_SUCH_ELEMENT);
        due("totalExchanges(-1)", x.totalExchanges(-1), NO_SUCH_ELEMENT);
        promise = 27;
        due("countSorted(0)", x.countSorted(0), 24);
        due("mostExchanges(0)", x.mostExchanges(0), 5);
        due("mostExchanges(1)", x.mostExchanges(1), 28);
        due("mostExchanges(2)", x.mostExchanges(2), 40);
        due("mostExchanges(3)", x.mostExchanges(3), 0);
        due("mostExchanges(4)", x.mostExchanges(4), NO_SUCH_ELEMENT);
        due("mostExchanges(-1)", x.mostExchanges(-1), NO_SUCH_ELEMENT);
        make(x, 3, 3, 1, 1, 1);
        due("mostExchanges(3)", x.mostExchanges(3), 1);
    }

    private static void isRedundant() {
        ComparatorNetworks x = begin(28);
        make(x, 0, 4, 1, 23, 1, 2, 13, 3, 12, 10);
        int[] redundant = {0, 0, 1, 0, 0, 1, 0, 0};
        for (int p = 0; p < redundant.length; p++) {
            due("isRedundant(0, " + p + ")", x.isRedundant(0, p), redundant[p]);
        }
        due("isRedundant(0, 8)", x.isRedundant(0, 8), NO_SUCH_ELEMENT);
        due("isRedundant(0, -1)", x.isRedundant(0, -1), NO_SUCH_ELEMENT);
        due("isRedundant(4, 0)", x.isRedundant(4, 0), NO_SUCH_ELEMENT);
        due("isRedundant(-1, 0)", x.isRedundant(-1, 0), NO_SUCH_ELEMENT);
        x.build(1, 8, 3);
        x.add(1, 6, 7);
        due("isRedundant(1, 18)", x.isRedundant(1, 18), 0);
        due("isRedundant(1, 19)", x.isRedundant(1, 19), 1);
    }

    private static void prune() {
        ComparatorNetworks x = begin(29);
        make(x, 0, 4, 1, 1, 23, 1, 2, 13, 3, 12, 12);
        due("prune(0)", x.prune(0), 4);
        dueNetwork(x, 0, 4, 1, 23, 2, 13, 12);
        due("prune(0) again", x.prune(0), 0);
        dueNetwork(x, 0, 4, 1, 23, 2, 13, 12);
        make(x, 1, 2, 1, 10, 1, 10, 10);
        due("prune(1)", x.prune(1), 1);
        dueNetwork(x, 1, 2, 1, 10, 1, 10);
        due("prune(2)", x.prune(2), 0);
        due("prune(4)", x.prune(4), NO_SUCH_ELEMENT);
        due("prune(-1)", x.prune(-1), NO_SUCH_ELEMENT);
    }

    private static void reduce() {
        ComparatorNetworks x = begin(30);
        due("reduce(0)", x.reduce(0), STATE);
        due("reduce(4)", x.reduce(4), NO_SUCH_ELEMENT);
        due("reduce(-1)", x.reduce(-1), NO_SUCH_ELEMENT);
        due("undo() after errors", x.undo(), NONE);
        make(x, 0, 2, 1, 1, 10, 1, 10, 1, 1);
        due("reduce(0)", x.reduce(0), 6);
        dueNetwork(x, 0, 2, 1);
        make(x, 1, 4, 1, 23, 2, 13, 12);
        due("reduce(1)", x.reduce(1), 0);
        dueNetwork(x, 1, 4, 1, 23, 2, 13, 12);
        make(x, 2, 3, 1, 12, 1, 12, 1);
        due("reduce(2)", x.reduce(2), 2);
        dueNetwork(x, 2, 3, 1, 12, 1);
        make(x, 2, 2, 10, 1);
        due("reduce(2) of the first comparator", x.reduce(2), 1);
        dueNetwork(x, 2, 2, 1);
        make(x, 3, 3, 12, 1, 12, 1, 2);
        due("reduce(3)", x.reduce(3), 2);
        dueNetwork(x, 3, 3, 12, 1, 12);
        x.remove(3, 2);
        due("reduce(3) of no sorter", x.reduce(3), STATE);
        dueNetwork(x, 3, 3, 12, 1);
        x.build(0, 8, 2);
        due("reduce(0)", x.reduce(0), 0);
    }

    private static void standardize() {
        ComparatorNetworks x = begin(31);
        make(x, 0, 4, 30, 21, 31);
        due("standardize(0)", x.standardize(0), 2);
        dueNetwork(x, 0, 4, 3, 12, 2);
        due("standardize(0) again", x.standardize(0), 0);
        dueNetwork(x, 0, 4, 3, 12, 2);
        make(x, 1, 3, 10, 1, 12);
        due("standardize(1)", x.standardize(1), 2);
        dueNetwork(x, 1, 3, 1, 1, 12);
        make(x, 2, 3, 1, 20, 12, 1);
        due("standardize(2)", x.standardize(2), 3);
        dueNetwork(x, 2, 3, 1, 2, 1, 2);
        due("standardize(3)", x.standardize(3), 0);
        due("standardize(4)", x.standardize(4), NO_SUCH_ELEMENT);
        due("standardize(-1)", x.standardize(-1), NO_SUCH_ELEMENT);
    }

    private static void mirror() {
        ComparatorNetworks x = begin(32);
        make(x, 0, 5, 1, 42, 13);
        due("mirror(0)", x.mirror(0), 3);
        dueNetwork(x, 0, 5, 34, 20, 13);
        due("mirror(0) again", x.mirror(0), 3);
        dueNetwork(x, 0, 5, 1, 42, 13);
        due("mirror(1)", x.mirror(1), 0);
        due("mirror(4)", x.mirror(4), NO_SUCH_ELEMENT);
        due("mirror(-1)", x.mirror(-1), NO_SUCH_ELEMENT);
    }

    private static void candidate() {
        ComparatorNetworks x = begin(33);
        make(x, 0, 4, 1, 23, 2, 13);
        int[] codes = {12, 1, 2, 3, 13, 23};
        int[] outputs = {5, 6, 6, 6, 6, 6};
        for (int rank = 0; rank < 6; rank++) {
            due("candidate(0, " + rank + ", 0)", x.candidate(0, rank, 0), codes[rank]);
            due("candidate(0, " + rank + ", 1)", x.candidate(0, rank, 1), outputs[rank]);
        }
        due("candidate(0, 6, 0)", x.candidate(0, 6, 0), BAD_VALUE);
        due("candidate(0, -1, 0)", x.candidate(0, -1, 0), BAD_VALUE);
        due("candidate(0, 0, 2)", x.candidate(0, 0, 2), BAD_VALUE);
        due("candidate(0, 0, -1)", x.candidate(0, 0, -1), BAD_VALUE);
        due("candidate(4, 9, 9)", x.candidate(4, 9, 9), NO_SUCH_ELEMENT);
        due("candidate(-1, 0, 0)", x.candidate(-1, 0, 0), NO_SUCH_ELEMENT);
        due("candidate(1, 0, 0)", x.candidate(1, 0, 0), 1);
        due("candidate(1, 0, 1)", x.candidate(1, 0, 1), 3);
        due("candidate(1, 1, 1)", x.candidate(1, 1, 1), BAD_VALUE);
        x.reset(2, 8);
        due("candidate(2, 27, 0)", x.candidate(2, 27, 0), 67);
        due("candidate(2, 27, 1)", x.candidate(2, 27, 1), 192);
        due("candidate(2, 28, 1)", x.candidate(2, 28, 1), BAD_VALUE);
        make(x, 2, 4, 1);
        int[] codesThen = {23, 2, 3, 12, 13, 1};
        int[] outputsThen = {9, 10, 10, 10, 10, 12};
        for (int rank = 0; rank < 6; rank++) {
            due("candidate(2, " + rank + ", 0)", x.candidate(2, rank, 0), codesThen[rank]);
            due("candidate(2, " + rank + ", 1)", x.candidate(2, rank, 1), outputsThen[rank]);
        }
        fill(x, 3, 3, 40);
        due("candidate(3, 0, 0) of a full network", x.candidate(3, 0, 0), 2);
        due("candidate(3, 2, 0) of a full network", x.candidate(3, 2, 0), 1);
        due("candidate(3, 2, 1) of a full network", x.candidate(3, 2, 1), 6);
    }

    private static void grow() {
        ComparatorNetworks x = begin(34);
        due("grow(0)", x.grow(0), 3);
        dueNetwork(x, 0, 2, 1);
        due("grow(0) of a sorter", x.grow(0), STATE);
        due("grow(4)", x.grow(4), NO_SUCH_ELEMENT);
        due("grow(-1)", x.grow(-1), NO_SUCH_ELEMENT);
        x.reset(1, 4);
        due("grow(1)", x.grow(1), 12);
        due("grow(1)", x.grow(1), 9);
        due("comparator(1, 0)", x.comparator(1, 0), 1);
        due("comparator(1, 1)", x.comparator(1, 1), 23);
        fill(x, 2, 3, 40);
        due("grow(2) when full", x.grow(2), FULL);
        fill(x, 2, 2, 40);
        due("grow(2) when full, of a sorter", x.grow(2), STATE);
        fill(x, 2, 3, 39);
        due("grow(2) as the 40th", x.grow(2), 5);
        due("comparator(2, 39)", x.comparator(2, 39), 2);
    }

    private static void missing() {
        ComparatorNetworks x = begin(35);
        due("missing(0, 0)", x.missing(0, 0), NONE);
        due("missing(0, 1)", x.missing(0, 1), 1);
        due("missing(0, 2)", x.missing(0, 2), 1);
        due("missing(0, 3)", x.missing(0, 3), BAD_VALUE);
        due("missing(0, -1)", x.missing(0, -1), BAD_VALUE);
        due("missing(4, 3)", x.missing(4, 3), NO_SUCH_ELEMENT);
        due("missing(-1, 0)", x.missing(-1, 0), NO_SUCH_ELEMENT);
        make(x, 1, 4, 1, 23, 2);
        due("missing(1, 1)", x.missing(1, 1), NONE);
        due("missing(1, 2)", x.missing(1, 2), 2);
        x.remove(1, 2);
        due("missing(1, 2)", x.missing(1, 2), NONE);
        x.build(2, 8, 3);
        due("missing(2, 0)", x.missing(2, 0), 0);
        due("missing(2, 2)", x.missing(2, 2), 0);
        x.remove(2, 18);
        due("missing(2, 0)", x.missing(2, 0), NONE);
        due("missing(2, 2)", x.missing(2, 2), 1);
        x.remove(2, 17);
        due("missing(2, 1)", x.missing(2, 1), NONE);
        due("missing(2, 2)", x.missing(2, 2), 2);
        x.remove(2, 16);
        due("missing(2, 2)", x.missing(2, 2), NONE);
        make(x, 3, 2, 10);
        due("missing(3, 1)", x.missing(3, 1), 1);
        fill(x, 3, 3, 40);
        due("missing(3, 2) regardless of the room", x.missing(3, 2), 2);
        due("size(3)", x.size(3), 40);
        make(x, 3, 3, 12);
        due("missing(3, 1)", x.missing(3, 1), NONE);
        due("missing(3, 2), both on wire 0", x.missing(3, 2), 2);
    }

    private static void sameOutputs() {
        ComparatorNetworks x = begin(36);
        x.build(0, 5, 0);
        x.build(1, 5, 3);
        due("sameOutputs(0, 1)", x.sameOutputs(0, 1), 1);
        due("sameOutputs(1, 1)", x.sameOutputs(1, 1), 1);
        x.remove(1, 8);
        due("sameOutputs(0, 1)", x.sameOutputs(0, 1), 0);
        due("sameOutputs(1, 0)", x.sameOutputs(1, 0), 0);
        make(x, 2, 4, 1);
        make(x, 3, 4, 10);
        due("sameOutputs(2, 3)", x.sameOutputs(2, 3), 0);
        due("sameOutputs(2, 0)", x.sameOutputs(2, 0), BAD_VALUE);
        due("sameOutputs(4, 0)", x.sameOutputs(4, 0), NO_SUCH_ELEMENT);
        due("sameOutputs(0, 4)", x.sameOutputs(0, 4), NO_SUCH_ELEMENT);
        due("sameOutputs(-1, 0)", x.sameOutputs(-1, 0), NO_SUCH_ELEMENT);
        due("sameOutputs(0, -1)", x.sameOutputs(0, -1), NO_SUCH_ELEMENT);
    }

    private static void isIsomorphic() {
        ComparatorNetworks x = begin(37);
        make(x, 0, 4, 1, 23, 2);
        make(x, 1, 4, 32, 10, 31);
        due("isIsomorphic(0, 1)", x.isIsomorphic(0, 1), 1);
        due("isIsomorphic(1, 0)", x.isIsomorphic(1, 0), 1);
        make(x, 1, 4, 23, 1, 2);
        due("isIsomorphic(0, 1) in another order", x.isIsomorphic(0, 1), 0);
        make(x, 1, 4, 1, 23, 21);
        due("isIsomorphic(0, 1)", x.isIsomorphic(0, 1), 0);
        make(x, 1, 4, 1, 23);
        due("isIsomorphic(0, 1) of other sizes", x.isIsomorphic(0, 1), 0);
        due("isIsomorphic(1, 0) of other sizes", x.isIsomorphic(1, 0), 0);
        make(x, 2, 3, 1, 2);
        make(x, 3, 3, 1, 21);
        due("isIsomorphic(2, 3)", x.isIsomorphic(2, 3), 0);
        make(x, 3, 3, 1, 1);
        due("isIsomorphic(2, 3), two wires to one", x.isIsomorphic(2, 3), 0);
        due("isIsomorphic(3, 2), one wire to two", x.isIsomorphic(3, 2), 0);
        due("isIsomorphic(0, 2)", x.isIsomorphic(0, 2), BAD_VALUE);
        due("isIsomorphic(4, 0)", x.isIsomorphic(4, 0), NO_SUCH_ELEMENT);
        due("isIsomorphic(0, 4)", x.isIsomorphic(0, 4), NO_SUCH_ELEMENT);
        due("isIsomorphic(-1, -1)", x.isIsomorphic(-1, -1), NO_SUCH_ELEMENT);
        x.reset(0, 8);
        x.reset(1, 8);
        due("isIsomorphic(0, 1) without comparators", x.isIsomorphic(0, 1), 1);
        make(x, 0, 8, 1, 23, 45, 67);
        make(x, 1, 8, 76, 54, 32, 10);
        due("isIsomorphic(0, 1)", x.isIsomorphic(0, 1), 1);
    }

    private static void subsumes() {
        ComparatorNetworks x = begin(38);
        make(x, 0, 4, 1, 23, 2);
        make(x, 1, 4, 32, 10, 31);
        due("subsumes(0, 1)", x.subsumes(0, 1), 1);
        x.add(1, 1, 2);
        due("subsumes(1, 0)", x.subsumes(1, 0), 1);
        due("subsumes(0, 1)", x.subsumes(0, 1), 0);
        make(x, 2, 6, 50);
        x.reset(3, 6);
        due("subsumes(2, 3)", x.subsumes(2, 3), 1);
        due("subsumes(3, 2)", x.subsumes(3, 2), 0);
        make(x, 2, 3, 1, 2);
        make(x, 3, 3, 2, 12);
        due("subsumes(2, 3), a least and a greatest value", x.subsumes(2, 3), 0);
        due("subsumes(3, 2), a greatest and a least value", x.subsumes(3, 2), 0);
        make(x, 2, 5, 1, 12, 23);
        make(x, 3, 5, 34, 42, 20);
        due("subsumes(2, 3), a turn of the wires that is not its own reverse", x.subsumes(2, 3), 1);
        due("subsumes(0, 2)", x.subsumes(0, 2), BAD_VALUE);
        x.reset(0, 7);
        x.reset(1, 7);
        due("subsumes(0, 1)", x.subsumes(0, 1), TOO_LARGE);
        due("subsumes(0, 2)", x.subsumes(0, 2), BAD_VALUE);
        due("subsumes(0, 4)", x.subsumes(0, 4), NO_SUCH_ELEMENT);
        due("subsumes(4, 0)", x.subsumes(4, 0), NO_SUCH_ELEMENT);
        due("subsumes(-1, 0)", x.subsumes(-1, 0), NO_SUCH_ELEMENT);
    }

    private static void build() {
        ComparatorNetworks x = begin(39);
        due("build(0, 4, 0)", x.build(0, 4, 0), 6);
        dueNetwork(x, 0, 4, 1, 12, 1, 23, 12, 1);
        due("build(1, 4, 1)", x.build(1, 4, 1), 6);
        dueNetwork(x, 1, 4, 1, 12, 23, 1, 12, 1);
        due("build(2, 4, 2)", x.build(2, 4, 2), 6);
        dueNetwork(x, 2, 4, 1, 23, 12, 1, 23, 12);
        due("build(2, 5, 2)", x.build(2, 5, 2), 10);
        dueNetwork(x, 2, 5, 1, 23, 12, 34, 1, 23, 12, 34, 1, 23);
        due("build(3, 4, 3)", x.build(3, 4, 3), 5);
        dueNetwork(x, 3, 4, 2, 13, 1, 23, 12);
        due("build(3, 8, 3)", x.build(3, 8, 3), 19);
        dueNetwork(x, 3, 8, 4, 15, 26, 37, 2, 13, 46, 57, 24, 35, 1, 23, 45, 67, 14, 36, 12, 34, 56);
        for (int n = 2; n <= 8; n++) {
            for (int method = 0; method < 4; method++) {
                x.build(0, n, method);
                due("wires(0) after build(0, " + n + ", " + method + ")", x.wires(0), n);
                due("isSorter(0) after build(0, " + n + ", " + method + ")", x.isSorter(0), 1);
            }
        }
        due("build(0, 2, 3)", x.build(0, 2, 3), 1);
        due("build(0, 1, 0)", x.build(0, 1, 0), BAD_VALUE);
        due("build(0, 9, 0)", x.build(0, 9, 0), BAD_VALUE);
        due("build(0, 3, 4)", x.build(0, 3, 4), BAD_VALUE);
        due("build(0, 3, -1)", x.build(0, 3, -1), BAD_VALUE);
        due("build(4, 9, 9)", x.build(4, 9, 9), NO_SUCH_ELEMENT);
        due("build(-1, 3, 0)", x.build(-1, 3, 0), NO_SUCH_ELEMENT);
        dueNetwork(x, 0, 2, 1);
    }

    private static void isMerger() {
        ComparatorNetworks x = begin(40);
        make(x, 0, 4, 2, 13, 12);
        int[] merges = {1, 0, 1, 0, 1};
        for (int first = 0; first <= 4; first++) {
            due("isMerger(0, " + first + ")", x.isMerger(0, first), merges[first]);
        }
        due("isMerger(0, 5)", x.isMerger(0, 5), BAD_VALUE);
        due("isMerger(0, -1)", x.isMerger(0, -1), BAD_VALUE);
        due("isMerger(4, 9)", x.isMerger(4, 9), NO_SUCH_ELEMENT);
        due("isMerger(-1, 0)", x.isMerger(-1, 0), NO_SUCH_ELEMENT);
        due("isMerger(1, 0) without comparators", x.isMerger(1, 0), 1);
        due("isMerger(1, 1) without comparators", x.isMerger(1, 1), 0);
        due("isMerger(1, 2) without comparators", x.isMerger(1, 2), 1);
        make(x, 2, 4, 10);
        due("isMerger(2, 0) that spoils what is sorted", x.isMerger(2, 0), 0);
        due("isMerger(2, 4) that spoils what is sorted", x.isMerger(2, 4), 0);
        make(x, 3, 8, 1, 12, 23, 34, 45, 56, 67);
        due("isMerger(3, 1), one value moving up", x.isMerger(3, 1), 1);
        due("isMerger(3, 7), one value moving down", x.isMerger(3, 7), 0);
        x.mirror(3);
        due("isMerger(3, 1)", x.isMerger(3, 1), 0);
        due("isMerger(3, 7)", x.isMerger(3, 7), 1);
    }

    private static void concatenate() {
        ComparatorNetworks x = begin(41);
        make(x, 0, 3, 1, 12);
        make(x, 1, 3, 20);
        due("concatenate(0, 1, 2)", x.concatenate(0, 1, 2), 3);
        dueNetwork(x, 2, 3, 1, 12, 20);
        due("concatenate(0, 1, 0)", x.concatenate(0, 1, 0), 3);
        dueNetwork(x, 0, 3, 1, 12, 20);
        due("concatenate(0, 1, 1)", x.concatenate(0, 1, 1), 4);
        dueNetwork(x, 1, 3, 1, 12, 20, 20);
        due("concatenate(2, 2, 2)", x.concatenate(2, 2, 2), 6);
        dueNetwork(x, 2, 3, 1, 12, 20, 1, 12, 20);
        due("concatenate(0, 3, 1)", x.concatenate(0, 3, 1), BAD_VALUE);
        due("concatenate(0, 3, 4)", x.concatenate(0, 3, 4), NO_SUCH_ELEMENT);
        due("concatenate(4, 0, 0)", x.concatenate(4, 0, 0), NO_SUCH_ELEMENT);
        due("concatenate(0, -1, 0)", x.concatenate(0, -1, 0), NO_SUCH_ELEMENT);
        fill(x, 0, 3, 21);
        fill(x, 1, 3, 19);
        due("concatenate(0, 0, 3)", x.concatenate(0, 0, 3), FULL);
        fill(x, 2, 3, 20);
        due("concatenate(0, 2, 3)", x.concatenate(0, 2, 3), FULL);
        due("concatenate(2, 0, 3)", x.concatenate(2, 0, 3), FULL);
        dueNetwork(x, 3, 2);
        due("concatenate(0, 1, 3)", x.concatenate(0, 1, 3), 40);
        due("wires(3)", x.wires(3), 3);
        fill(x, 2, 4, 40);
        due("concatenate(2, 0, 3) with other wires, and full", x.concatenate(2, 0, 3), BAD_VALUE);
    }

    private static void beside() {
        ComparatorNetworks x = begin(42);
        make(x, 0, 3, 1, 20);
        make(x, 1, 5, 4, 32);
        due("beside(0, 1, 2)", x.beside(0, 1, 2), 8);
        dueNetwork(x, 2, 8, 1, 20, 37, 65);
        due("beside(1, 0, 1)", x.beside(1, 0, 1), 8);
        dueNetwork(x, 1, 8, 4, 32, 56, 75);
        due("beside(0, 0, 0)", x.beside(0, 0, 0), 6);
        dueNetwork(x, 0, 6, 1, 20, 34, 53);
        due("beside(3, 0, 0)", x.beside(3, 0, 0), 8);
        dueNetwork(x, 0, 8, 23, 42, 56, 75);
        due("beside(0, 3, 3)", x.beside(0, 3, 3), TOO_LARGE);
        due("beside(0, 3, 4)", x.beside(0, 3, 4), NO_SUCH_ELEMENT);
        due("beside(4, 3, 0)", x.beside(4, 3, 0), NO_SUCH_ELEMENT);
        due("beside(0, -1, 0)", x.beside(0, -1, 0), NO_SUCH_ELEMENT);
        dueNetwork(x, 3, 2);
        fill(x, 0, 4, 21);
        fill(x, 1, 4, 20);
        due("beside(0, 1, 2)", x.beside(0, 1, 2), FULL);
        due("beside(1, 0, 2)", x.beside(1, 0, 2), FULL);
        due("size(2)", x.size(2), 4);
        due("beside(1, 1, 2)", x.beside(1, 1, 2), 8);
        due("size(2)", x.size(2), 40);
        due("beside(2, 2, 3), too large and full", x.beside(2, 2, 3), TOO_LARGE);
    }

    private static void undo() {
        ComparatorNetworks x = begin(43);
        due("undo()", x.undo(), NONE);
        for (int k = 1; k <= 15; k++) {
            x.add(k % 2, 0, 1);
        }
        for (int k = 11; k >= 0; k--) {
            due("undo()", x.undo(), k);
        }
        due("undo() of the 13th change back", x.undo(), NONE);
        due("size(0)", x.size(0), 1);
        due("size(1)", x.size(1), 2);
        x.reset(2, 7);
        x.build(2, 4, 1);
        due("undo()", x.undo(), 1);
        dueNetwork(x, 2, 7);
        x.add(2, 6, 5);
        due("undo() after another change", x.undo(), 1);
        due("undo()", x.undo(), 0);
        dueNetwork(x, 2, 2);
        due("undo()", x.undo(), NONE);
        errorsAreNoChanges();
        whatUndoLeaves();
    }

    private static void errorsAreNoChanges() {
        ComparatorNetworks x = new ComparatorNetworks();
        x.reset(0, 9);
        x.add(0, 0, 0);
        x.insert(0, 1, 0, 1);
        x.remove(0, 0);
        x.parse(0);
        x.prune(4);
        x.reduce(0);
        x.standardize(4);
        x.mirror(4);
        x.build(0, 2, 4);
        x.concatenate(0, 1, 4);
        x.beside(0, 1, 4);
        x.applyBlock(0, 0);
        due("undo() after errors", x.undo(), NONE);
        x.add(0, 0, 1);
        x.grow(0);
        due("undo() after one change and an error", x.undo(), 0);
    }

    private static void whatUndoLeaves() {
        ComparatorNetworks x = new ComparatorNetworks();
        x.add(0, 0, 1);
        x.setKey(0, 8);
        x.run(0);
        x.place(1, 3, 0, 0);
        x.append('0');
        x.wires(0);
        due("undo()", x.undo(), 0);
        due("result(1)", x.result(1), 8);
        due("setKey(0, 1)", x.setKey(0, 1), 8);
        due("castBlock(1, 3)", x.castBlock(1, 3), 3);
        due("clearText()", x.clearText(), 1);
        write(x, "0:1");
        x.parse(0);
        x.undo();
        due("clearText() after parse and undo", x.clearText(), 0);
    }

    /** Each call of the list is a change, also where the networks stay the same, and can be undone. */
    private static void undoOfEveryChange() {
        ComparatorNetworks x = begin(43);
        make(x, 0, 3, 1, 12, 1);
        x.place(0, 0, 0, 0);
        x.place(1, 3, 0, 0);
        int changes = 4;
        x.remove(0, 0);
        x.insert(0, 0, 0, 1);
        x.prune(0);
        x.reduce(0);
        x.standardize(0);
        x.mirror(0);
        x.applyBlock(0, 0);
        changes += 7;
        x.concatenate(2, 3, 0);
        dueNetwork(x, 0, 2);
        due("undo() of concatenate", x.undo(), changes);
        dueNetwork(x, 0, 3, 12, 1, 12);
        x.beside(0, 3, 1);
        due("undo() of beside", x.undo(), changes);
        dueNetwork(x, 1, 2);
        write(x, "2:0");
        x.parse(0);
        due("undo() of parse", x.undo(), changes);
        dueNetwork(x, 0, 3, 12, 1, 12);
        x.grow(2);
        due("undo() of grow", x.undo(), changes);
        dueNetwork(x, 2, 2);
        x.applyBlock(1, 3);
        due("undo() of applyBlock", x.undo(), changes);
        dueNetwork(x, 3, 2);
        due("undo() of applyBlock of nothing", x.undo(), changes - 1);
        dueNetwork(x, 0, 3, 12, 1, 12);
        due("undo() of mirror", x.undo(), changes - 2);
        dueNetwork(x, 0, 3, 1, 12, 1);
        due("undo() of standardize", x.undo(), changes - 3);
        due("undo() of reduce", x.undo(), changes - 4);
        due("undo() of prune", x.undo(), changes - 5);
        due("undo() of insert", x.undo(), changes - 6);
        dueNetwork(x, 0, 3, 12, 1);
        due("undo() of remove", x.undo(), changes - 7);
        dueNetwork(x, 0, 3, 1, 12, 1);
    }

    private static void place() {
        ComparatorNetworks x = begin(44);
        due("place(0, 0, -5, 99)", x.place(0, 0, -5, 99), 1);
        due("place(2, 1, 0, 7)", x.place(2, 1, 0, 7), 2);
        due("place(2, 2, 7, 0)", x.place(2, 2, 7, 0), 2);
        due("place(1, 3, 1, -9)", x.place(1, 3, 1, -9), 3);
        due("place(1, 4, 0, 9)", x.place(1, 4, 0, 9), 3);
        due("place(1, 5, 1, 0)", x.place(1, 5, 1, 0), 3);
        due("place(3, 9, 9, 9)", x.place(3, 9, 9, 9), NO_SUCH_ELEMENT);
        due("place(-1, 0, 0, 0)", x.place(-1, 0, 0, 0), NO_SUCH_ELEMENT);
        due("place(0, 6, 0, 0)", x.place(0, 6, 0, 0), BAD_VALUE);
        due("place(0, -1, 0, 0)", x.place(0, -1, 0, 0), BAD_VALUE);
        for (int kind = 1; kind <= 2; kind++) {
            due("place(0, " + kind + ", 8, 0)", x.place(0, kind, 8, 0), BAD_VALUE);
            due("place(0, " + kind + ", 0, 8)", x.place(0, kind, 0, 8), BAD_VALUE);
            due("place(0, " + kind + ", -1, 0)", x.place(0, kind, -1, 0), BAD_VALUE);
            due("place(0, " + kind + ", 0, -1)", x.place(0, kind, 0, -1), BAD_VALUE);
            due("place(0, " + kind + ", 3, 3)", x.place(0, kind, 3, 3), BAD_VALUE);
        }
        for (int kind = 3; kind <= 5; kind++) {
            due("place(0, " + kind + ", 2, 0)", x.place(0, kind, 2, 0), BAD_VALUE);
            due("place(0, " + kind + ", -1, 0)", x.place(0, kind, -1, 0), BAD_VALUE);
        }
        for (int kind = 4; kind <= 5; kind++) {
            due("place(0, " + kind + ", 0, 10)", x.place(0, kind, 0, 10), BAD_VALUE);
            due("place(0, " + kind + ", 0, -1)", x.place(0, kind, 0, -1), BAD_VALUE);
        }
        due("castBlock(0, 0)", x.castBlock(0, 0), 0);
        due("castBlock(1, 0)", x.castBlock(1, 0), 5);
        due("castBlock(2, 0)", x.castBlock(2, 0), 2);
    }

    private static void discard() {
        ComparatorNetworks x = begin(45);
        due("discard(0)", x.discard(0), EMPTY);
        due("discard(3)", x.discard(3), NO_SUCH_ELEMENT);
        due("discard(-1)", x.discard(-1), NO_SUCH_ELEMENT);
        for (int kind = 0; kind <= 5; kind++) {
            x.place(2, kind, 0, 1);
            due("discard(2)", x.discard(2), kind);
            due("discard(2)", x.discard(2), EMPTY);
        }
        x.place(0, 0, 0, 0);
        x.place(1, 0, 0, 0);
        x.discard(0);
        due("place(1, 0, 0, 0)", x.place(1, 0, 0, 0), 1);
    }

    private static void castBlock() {
        ComparatorNetworks x = begin(46);
        int[][] kindsAbove = {{0}, {0, 1}, {0, 1, 2}, {0, 3}, {0, 3, 4}, {0, 3, 4, 5}};
        for (int kind = 0; kind <= 5; kind++) {
            x.place(0, kind, 0, 1);
            for (int wanted = 0; wanted <= 5; wanted++) {
                boolean above = false;
                for (int k : kindsAbove[kind]) {
                    above |= k == wanted;
                }
                due("castBlock(0, " + wanted + ") of " + kind, x.castBlock(0, wanted), above ? kind : WRONG_TYPE);
            }
        }
        due("castBlock(1, 0)", x.castBlock(1, 0), EMPTY);
        due("castBlock(1, 6)", x.castBlock(1, 6), BAD_VALUE);
        due("castBlock(0, -1)", x.castBlock(0, -1), BAD_VALUE);
        due("castBlock(3, 6)", x.castBlock(3, 6), NO_SUCH_ELEMENT);
        due("castBlock(-1, 0)", x.castBlock(-1, 0), NO_SUCH_ELEMENT);
    }

    private static void dueSizes(ComparatorNetworks x, int kind, int a, int b, int... sizes) {
        x.place(0, kind, a, b);
        for (int wires = 2; wires <= 8; wires++) {
            String call = "blockSize(0, " + wires + ") of " + kind + ", " + a + ", " + b;
            due(call, x.blockSize(0, wires), sizes[wires - 2]);
        }
    }

    private static void blockSize() {
        ComparatorNetworks x = begin(47);
        due("blockSize(0, 4)", x.blockSize(0, 4), EMPTY);
        due("blockSize(0, 1)", x.blockSize(0, 1), BAD_VALUE);
        due("blockSize(0, 9)", x.blockSize(0, 9), BAD_VALUE);
        due("blockSize(3, 9)", x.blockSize(3, 9), NO_SUCH_ELEMENT);
        due("blockSize(-1, 4)", x.blockSize(-1, 4), NO_SUCH_ELEMENT);
        dueSizes(x, 0, 9, 9, 0, 0, 0, 0, 0, 0, 0);
        dueSizes(x, 1, 0, 1, 1, 1, 1, 1, 1, 1, 1);
        dueSizes(x, 1, 5, 3, STATE, STATE, STATE, STATE, 1, 1, 1);
        dueSizes(x, 1, 3, 5, STATE, STATE, STATE, STATE, 1, 1, 1);
        dueSizes(x, 2, 1, 0, 2, 2, 2, 2, 2, 2, 2);
        dueSizes(x, 2, 0, 4, STATE, STATE, STATE, 2, 2, 2, 2);
        dueSizes(x, 3, 0, 7, 1, 1, 2, 2, 3, 3, 4);
        dueSizes(x, 3, 1, 7, 0, 1, 1, 2, 2, 3, 3);
        dueSizes(x, 4, 0, 0, 0, 0, 0, 0, 0, 0, 0);
        dueSizes(x, 4, 0, 3, 2, 3, 5, 6, 8, 9, 11);
        dueSizes(x, 4, 1, 3, 1, 3, 4, 6, 7, 9, 10);
        dueSizes(x, 5, 0, 0, 1, 1, 2, 2, 3, 3, 4);
        dueSizes(x, 5, 1, 3, 1, 4, 5, 8, 9, 12, 13);
        dueSizes(x, 5, 0, 9, 6, 10, 16, 20, 26, 30, 36);
        due("undo() after blockSize", x.undo(), NONE);
    }

    private static void applyBlock() {
        ComparatorNetworks x = begin(48);
        due("applyBlock(3, 0)", x.applyBlock(3, 0), NO_SUCH_ELEMENT);
        due("applyBlock(0, 4)", x.applyBlock(0, 4), NO_SUCH_ELEMENT);
        due("applyBlock(-1, -1)", x.applyBlock(-1, -1), NO_SUCH_ELEMENT);
        due("applyBlock(0, 0)", x.applyBlock(0, 0), EMPTY);
        make(x, 0, 5, 40);
        x.place(0, 5, 1, 2);
        due("applyBlock(0, 0) of a brick", x.applyBlock(0, 0), 6);
        dueNetwork(x, 0, 5, 40, 12, 34, 1, 23, 12, 34);
        x.reset(0, 5);
        x.place(0, 5, 0, 1);
        due("applyBlock(0, 0) of a brick", x.applyBlock(0, 0), 4);
        dueNetwork(x, 0, 5, 1, 23, 1, 23);
        x.reset(0, 4);
        x.place(0, 4, 0, 3);
        due("applyBlock(0, 0) of a repeated layer", x.applyBlock(0, 0), 5);
        dueNetwork(x, 0, 4, 1, 23, 12, 1, 23);
        x.reset(0, 6);
        x.place(0, 2, 4, 0);
        due("applyBlock(0, 0) of a twin gate", x.applyBlock(0, 0), 2);
        dueNetwork(x, 0, 6, 40, 51);
        x.place(0, 1, 5, 2);
        due("applyBlock(0, 0) of a gate", x.applyBlock(0, 0), 1);
        x.place(0, 3, 1, 0);
        due("applyBlock(0, 0) of a layer", x.applyBlock(0, 0), 2);
        x.place(0, 0, 0, 0);
        due("applyBlock(0, 0) of a block", x.applyBlock(0, 0), 0);
        dueNetwork(x, 0, 6, 40, 51, 52, 12, 34);
        due("castBlock(0, 0), still there", x.castBlock(0, 0), 0);
        fill(x, 1, 3, 39);
        x.place(1, 2, 0, 1);
        due("applyBlock(1, 1)", x.applyBlock(1, 1), FULL);
        due("size(1)", x.size(1), 39);
        x.place(1, 1, 2, 0);
        due("applyBlock(1, 1) as the 40th", x.applyBlock(1, 1), 1);
        due("applyBlock(1, 1) as the 41st", x.applyBlock(1, 1), FULL);
        due("comparator(1, 39)", x.comparator(1, 39), 20);
        x.place(1, 1, 3, 0);
        due("applyBlock(1, 1), outside and full", x.applyBlock(1, 1), STATE);
        x.place(1, 0, 0, 0);
        due("applyBlock(1, 1) of nothing when full", x.applyBlock(1, 1), 0);
    }

    /** Networks with 40 comparators on 8 wires, which fill every row to its end. */
    private static void fullNetworks() {
        ComparatorNetworks x = begin(0);
        x.build(0, 8, 0);
        for (int k = 0; k < 12; k++) {
            x.add(0, 1, 2);
        }
        due("size(0)", x.size(0), 40);
        setKeys(x, 8, 7, 6, 5, 4, 3, 2, 1);
        due("run(0)", x.run(0), 28);
        due("result(7)", x.result(7), 8);
        due("origin(7)", x.origin(7), 0);
        due("layer(0, 39)", x.layer(0, 39), 24);
        due("depth(0)", x.depth(0), 25);
        due("outputOf(0, 1)", x.outputOf(0, 1), 128);
        due("isMerger(0, 4)", x.isMerger(0, 4), 1);
        due("isSorter(0)", x.isSorter(0), 1);
        due("outputCount(0)", x.outputCount(0), 9);
        due("countSorted(0)", x.countSorted(0), 40320);
        due("totalExchanges(0)", x.totalExchanges(0), 40320L * 14);
        due("mostExchanges(0)", x.mostExchanges(0), 28);
        due("isRedundant(0, 39)", x.isRedundant(0, 39), 1);
        due("isIsomorphic(0, 0)", x.isIsomorphic(0, 0), 1);
        due("standardize(0)", x.standardize(0), 0);
        due("mirror(0)", x.mirror(0), 40);
        due("comparator(0, 39)", x.comparator(0, 39), 56);
        due("prune(0)", x.prune(0), 12);
        due("undo()", x.undo(), 11);
        due("reduce(0)", x.reduce(0), 12);
        due("undo()", x.undo(), 11);
        due("remove(0, 0)", x.remove(0, 0), 67);
        due("size(0)", x.size(0), 39);
        fill(x, 1, 2, 0);
        for (int k = 0; k < 40; k++) {
            x.add(1, 1, 0);
        }
        due("standardize(1)", x.standardize(1), 1);
        due("comparator(1, 39)", x.comparator(1, 39), 1);
    }
}
