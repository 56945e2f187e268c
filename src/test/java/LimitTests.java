/** The boundary cases that the document's description names for all promises together, a test for each. */
public final class LimitTests implements Codes {
    private static final int[] NO_NETWORKS = {-1, 4, LOWEST, HIGHEST};
    private static final int[] NO_SHELVES = {-1, 3, LOWEST, HIGHEST};

    /** A call for each place where a network is named by N, with its promise and its answer for 3 wires and (0, 1). */
    private static final Object[][] NETWORK_CALLS = {
        {2, "reset(N, 3)", 1}, {3, "wires(N)", 3}, {4, "size(N)", 1}, {5, "comparator(N, 0)", 1},
        {6, "add(N, 0, 1)", 2}, {7, "insert(N, 0, 0, 1)", 2}, {8, "remove(N, 0)", 1}, {9, "layer(N, 0)", 0},
        {10, "depth(N)", 1}, {15, "run(N)", 0}, {19, "outputCount(N)", 6}, {20, "outputOf(N, 1)", 2},
        {21, "isSorter(N)", 0}, {22, "firstFailure(N)", 1}, {23, "isSelector(N, 0)", 0}, {24, "countSorted(N)", 2},
        {25, "firstUnsorted(N)", 21}, {26, "totalExchanges(N)", 3}, {27, "mostExchanges(N)", 1},
        {28, "isRedundant(N, 0)", 0}, {29, "prune(N)", 0}, {30, "reduce(N)", STATE}, {31, "standardize(N)", 0},
        {32, "mirror(N)", 1}, {33, "candidate(N, 0, 0)", 2}, {34, "grow(N)", 5}, {35, "missing(N, 2)", 2},
        {36, "sameOutputs(N, 0)", 1}, {36, "sameOutputs(0, N)", 1}, {37, "isIsomorphic(N, 0)", 1},
        {37, "isIsomorphic(0, N)", 1}, {38, "subsumes(N, 0)", 1}, {38, "subsumes(0, N)", 1}, {39, "build(N, 2, 0)", 1},
        {40, "isMerger(N, 0)", 1}, {41, "concatenate(N, 0, 0)", 2}, {41, "concatenate(0, N, 0)", 2},
        {41, "concatenate(0, 0, N)", 2}, {42, "beside(N, 0, 0)", 6}, {42, "beside(0, N, 0)", 6},
        {42, "beside(0, 0, N)", 6}, {48, "applyBlock(0, N)", 1}};

    public static void main(String[] args) {
        useOfAnObject();
        networks();
        wires();
        comparators();
        layers();
        outputs();
        permutations();
        keys();
        text();
        grammar();
        errorPosition();
        shelves();
        blocks();
        blockNumbers();
        history();
        historyWrapsAround();
        errorsLeaveEverything();
        orderOfCodes();
        Desk.finish("LimitTests");
    }

    private static void useOfAnObject() {
        String sentence = "An object is used for at most 512 calls after it has been made; what later calls answer is free.";
        Desk.test(0, sentence).given("499 x mirror(0)", "11 x reset(3, 7)")
            .due("wires(3)", 7).due("undo()", 11);
        Desk.test(0, sentence).given("60 x append(48)", "450 x clearText()").due("wires(3)", 2).due("append(48)", 1);
    }

    private static void networks() {
        String sentence = "There are 4 networks, numbered from 0.";
        for (Object[] row : NETWORK_CALLS) {
            for (int network = 0; network < 4; network++) {
                Desk.test(0, sentence).net(0, 3, 1).net(1, 3, 1).net(2, 3, 1).net(3, 3, 1).given("place(0, 1, 0, 1)")
                    .due(((String) row[1]).replace("N", "" + network), (Integer) row[2]);
            }
            String own = "network, 0 to 3";
            Desk desk = Desk.test((Integer) row[0], own).net(0, 3, 1).net(1, 3, 1).net(2, 3, 1).net(3, 3, 1)
                .given("place(0, 1, 0, 1)", "setKey(0, 9)", "run(0)", "write 0:1");
            for (int network : NO_NETWORKS) {
                desk.refused(((String) row[1]).replace("N", "" + network), NO_SUCH_ELEMENT);
            }
        }
        for (int network = 0; network < 4; network++) {
            Desk.test(0, sentence).given("write 1:0", "reset(" + network + ", 2)").due("parse(" + network + ")", 1);
        }
        for (int network : NO_NETWORKS) {
            Desk.test(13, "`network`: the network, 0 to 3").net(0, 3, 1).given("write 0:1")
                .refusedTextGone("parse(" + network + ")", NO_SUCH_ELEMENT);
        }
        Desk.test(0, "At first each network has 2 wires and no comparators.")
            .holds(0, 2).holds(1, 2).holds(2, 2).holds(3, 2);
    }

    private static void wires() {
        String sentence = "A network has 2 to 8 wires, numbered from 0";
        for (int n = 2; n <= 8; n++) {
            String last = ", " + (n - 1);
            Desk desk = Desk.test(0, sentence).due("reset(0, " + n + ")", 0).asks("wires(0)", n)
                .due("add(0, 0" + last + ")", 1).due("add(0" + last + ", 0)", 2)
                .due("insert(0, 0, 0" + last + ")", 3).due("insert(0, 0" + last + ", 0)", 4)
                .holds(0, n, 10 * (n - 1), n - 1, n - 1, 10 * (n - 1))
                .asks("isSelector(0, 0)", 0).asks("isSelector(0" + last + ")", 0);
            for (int no : new int[] {-1, n, LOWEST, HIGHEST}) {
                desk.refused("add(0, 0, " + no + ")", NO_SUCH_ELEMENT).refused("add(0, " + no + ", 0)", NO_SUCH_ELEMENT)
                    .refused("insert(0, 0, 0, " + no + ")", NO_SUCH_ELEMENT)
                    .refused("insert(0, 0, " + no + ", 0)", NO_SUCH_ELEMENT)
                    .refused("isSelector(0, " + no + ")", NO_SUCH_ELEMENT);
            }
        }
        Desk desk = Desk.test(0, sentence).net(0, 5, 1, 42).given("place(0, 3, 0, 0)");
        for (int no : new int[] {1, 9, 0, -1, LOWEST, HIGHEST}) {
            desk.refused("reset(0, " + no + ")", BAD_VALUE).refused("build(0, " + no + ", 0)", BAD_VALUE)
                .refused("blockSize(0, " + no + ")", BAD_VALUE);
        }
        Desk twice = Desk.test(0, "A comparator (i, j) joins two different wires.").net(0, 8, 70);
        for (int w = 0; w < 8; w++) {
            twice.refused("add(0, " + w + ", " + w + ")", BAD_VALUE)
                .refused("insert(0, 0, " + w + ", " + w + ")", BAD_VALUE);
        }
    }

    private static void comparators() {
        String most = "a list of at most 40 comparators";
        Desk.test(0, most).fill(0, 3, 39).due("add(0, 0, 2)", 40).refused("add(0, 0, 2)", FULL)
            .asks("comparator(0, 39)", 2);
        Desk.test(0, most).fill(0, 3, 39).due("insert(0, 0, 0, 2)", 40).refused("insert(0, 0, 0, 2)", FULL)
            .asks("comparator(0, 0)", 2);
        Desk.test(0, most).fill(0, 3, 39).due("grow(0)", 5).refused("grow(0)", FULL).asks("size(0)", 40);
        Desk.test(0, most).fill(0, 3, 39).given("place(1, 1, 2, 1)").due("applyBlock(1, 0)", 1)
            .refused("applyBlock(1, 0)", FULL).asks("size(0)", 40);
        Desk.test(0, most).fill(0, 3, 39).net(1, 3, 21).due("concatenate(0, 1, 0)", 40)
            .refused("concatenate(0, 1, 0)", FULL).asks("size(0)", 40);
        Desk.test(0, most).fill(0, 3, 39).net(1, 2, 10).due("beside(0, 1, 0)", 5).refused("beside(0, 1, 0)", FULL)
            .asks("size(0)", 40);
        String positions = "whose positions are numbered from 0";
        for (int size : new int[] {0, 1, 40}) {
            Desk desk = Desk.test(0, positions).fill(0, 2, size);
            for (int no : new int[] {-1, size, LOWEST, HIGHEST}) {
                desk.refused("comparator(0, " + no + ")", NO_SUCH_ELEMENT)
                    .refused("remove(0, " + no + ")", NO_SUCH_ELEMENT).refused("layer(0, " + no + ")", NO_SUCH_ELEMENT)
                    .refused("isRedundant(0, " + no + ")", NO_SUCH_ELEMENT);
            }
            for (int p : size == 0 ? new int[0] : new int[] {0, size - 1}) {
                desk.asks("comparator(0, " + p + ")", 1).asks("layer(0, " + p + ")", p)
                    .asks("isRedundant(0, " + p + ")", p == 0 ? 0 : 1);
            }
        }
        Desk.test(0, positions).net(0, 8, 70, 12, 7).due("remove(0, 2)", 7).due("remove(0, 0)", 70)
            .due("remove(0, 0)", 12).refused("remove(0, 0)", NO_SUCH_ELEMENT);
        String greater = "if the value on wire i is greater than that on wire j, a comparator (i, j) exchanges both values";
        Desk.test(0, greater).net(0, 2, 1).given("setKey(0, 5)", "setKey(1, 5)")
            .due("run(0)", 0).asks("origin(0)", 0).asks("origin(1)", 1);
        Desk.test(0, greater).net(0, 2, 1).given("setKey(0, 6)", "setKey(1, 5)")
            .due("run(0)", 1).asks("origin(0)", 1).asks("result(0)", 5).asks("result(1)", 6);
        Desk.test(0, greater).net(0, 2, 1).given("setKey(0, 5)", "setKey(1, 6)").due("run(0)", 0).asks("origin(0)", 0);
        Desk.test(0, greater).net(0, 2, 10).given("setKey(0, 5)", "setKey(1, 5)").due("run(0)", 0).asks("origin(0)", 0);
        Desk.test(0, greater).net(0, 2, 10).given("setKey(0, 5)", "setKey(1, 6)").due("run(0)", 1).asks("result(0)", 6);
    }

    private static void layers() {
        String none = "The layer of a comparator is 0 if no comparator before it has a wire in common with it";
        Desk.test(0, none).net(0, 8, 1, 23, 45, 67).asks("layer(0, 0)", 0).asks("layer(0, 3)", 0).asks("depth(0)", 1);
        Desk.test(0, none).net(0, 4, 1, 1, 1, 23).asks("layer(0, 2)", 2).asks("layer(0, 3)", 0).asks("depth(0)", 3);
        String more = "otherwise it is 1 more than the greatest layer of those that do.";
        for (int code : new int[] {2, 20, 21, 12}) {
            Desk.test(0, more).net(0, 3, 1, code).asks("layer(0, 0)", 0).asks("layer(0, 1)", 1).asks("depth(0)", 2);
        }
        Desk.test(0, more).net(0, 4, 1, 1, 23, 2).asks("layer(0, 3)", 2);
        Desk.test(0, more).net(0, 4, 1, 1, 23, 20).asks("layer(0, 3)", 2);
        Desk.test(0, more).fill(0, 8, 40).asks("layer(0, 39)", 39).asks("depth(0)", 40);
    }

    private static void outputs() {
        String bits = "A zero-one input gives 0 or 1 to each wire and is written as bits, bit w for wire w.";
        for (int n = 2; n <= 8; n++) {
            int all = (1 << n) - 1;
            Desk desk = Desk.test(0, bits).net(0, n, 10 * (n - 1))
                .asks("outputOf(0, 0)", 0).asks("outputOf(0, " + all + ")", all)
                .asks("outputOf(0, " + (1 << n - 1) + ")", 1).asks("outputOf(0, 1)", 1);
            for (int no : new int[] {all + 1, -1, 1 << 30, LOWEST, HIGHEST}) {
                desk.refused("outputOf(0, " + no + ")", BAD_VALUE);
            }
        }
        String different = "The outputs of a network are all different sets of values";
        for (int n = 2; n <= 8; n++) {
            Desk.test(0, different).given("reset(0, " + n + ")").asks("outputCount(0)", 1 << n)
                .due("build(0, " + n + ", 1)", n * (n - 1) / 2).asks("outputCount(0)", n + 1);
        }
        String sorted = "An output is sorted if no wire has 1 while a wire with a greater number has 0.";
        Desk.test(0, sorted).given("reset(0, 2)").asks("firstFailure(0)", 1).asks("isMerger(0, 0)", 1)
            .asks("isMerger(0, 2)", 1).asks("isMerger(0, 1)", 0);
        Desk.test(0, sorted).given("reset(0, 8)").asks("firstFailure(0)", 1).asks("isMerger(0, 8)", 1);
        String sorter = "A network is a sorter if all its outputs are sorted.";
        onlyLowestFails(Desk.test(0, sorter)).asks("isSorter(0)", 0).asks("outputCount(0)", 10)
            .due("add(0, 6, 7)", 28).asks("isSorter(0)", 1).asks("outputCount(0)", 9);
        onlyHighestFails(Desk.test(0, sorter)).asks("isSorter(0)", 0).asks("outputCount(0)", 10)
            .due("add(0, 0, 1)", 28).asks("isSorter(0)", 1).asks("outputCount(0)", 9);
    }

    /** Sorts wires 1 to 7 and lets the value of wire 0 rise to wire 6 only: the input 1 alone stays unsorted. */
    static Desk onlyLowestFails(Desk desk) {
        return desk.net(0, 8, 12, 23, 12, 34, 23, 12, 45, 34, 23, 12, 56, 45, 34, 23, 12, 67, 56, 45, 34, 23, 12,
            1, 12, 23, 34, 45, 56);
    }

    /** Sorts all wires but 1 and lets the value of wire 1 rise, never fall: the input 253 alone stays unsorted. */
    static Desk onlyHighestFails(Desk desk) {
        return desk.net(0, 8, 2, 23, 2, 34, 23, 2, 45, 34, 23, 2, 56, 45, 34, 23, 2, 67, 56, 45, 34, 23, 2,
            12, 23, 34, 45, 56, 67);
    }

    private static void permutations() {
        String order = "Permutation inputs are listed in lexicographic order of the values on wire 0, wire 1, and so on.";
        Desk.test(0, order).net(0, 8, 10).asks("firstUnsorted(0)", 1234567);
        Desk.test(0, order).net(0, 8).asks("firstUnsorted(0)", 1234576);
        Desk.test(0, order).net(0, 2).asks("firstUnsorted(0)", 10);
        onlyLowestFails(Desk.test(0, order)).asks("firstUnsorted(0)", 70123456);
        onlyHighestFails(Desk.test(0, order)).asks("firstUnsorted(0)", 10234567);
    }

    private static void keys() {
        String sentence = "There are 8 keys from 0 to 99, numbered from 0, which are 0 at first.";
        Desk first = Desk.test(0, sentence);
        Desk ends = Desk.test(0, sentence);
        for (int key = 0; key < 8; key++) {
            first.due("setKey(" + key + ", 0)", 0);
            ends.due("setKey(" + key + ", 99)", 0).due("setKey(" + key + ", 0)", 99).due("setKey(" + key + ", 7)", 0)
                .refused("setKey(" + key + ", 100)", BAD_VALUE).refused("setKey(" + key + ", -1)", BAD_VALUE);
        }
        for (int no : new int[] {-1, 8, LOWEST, HIGHEST}) {
            ends.refused("setKey(" + no + ", 0)", NO_SUCH_ELEMENT);
        }
        for (int no : new int[] {LOWEST, HIGHEST}) {
            ends.refused("setKey(0, " + no + ")", BAD_VALUE);
        }
    }

    private static void text() {
        String sentence = "There is a text buffer for at most 60 characters, which is empty at first.";
        Desk.test(0, sentence).due("clearText()", 0);
        Desk.test(0, sentence).due("append(48)", 1);
        Desk.test(0, sentence).refused("parse(0)", -100);
        Desk.test(0, sentence).given("59 x append(48)").due("append(126)", 60).refused("append(126)", FULL)
            .refused("append(33)", FULL).due("clearText()", 60).due("append(48)", 1);
    }

    private static void parses(int wires, String text, int answer, int... codes) {
        Desk desk = Desk.test(0, "The digits are wires of the network, first i, then j.")
            .net(1, wires, 10).given("write " + text);
        desk.due("parse(1)", answer).holds(1, wires, codes).due("clearText()", 0);
    }

    private static void fails(String sentence, int wires, String text, int position) {
        Desk desk = Desk.test(0, sentence).net(1, wires, 10);
        if (!text.isEmpty()) {
            desk.given("write " + text);
        }
        desk.refusedTextGone("parse(1)", -100 - position).holds(1, wires, 10).due("clearText()", 0);
    }

    private static void grammar() {
        parses(2, "0:1", 1, 1);
        parses(2, "1:0", 1, 10);
        parses(2, "0:1;0:1", 2, 1, 1);
        parses(4, "0:1,2:3", 2, 1, 23);
        parses(4, "0:1,3:2;2:1", 3, 1, 32, 21);
        parses(8, "0:1,2:3,4:5,6:7", 4, 1, 23, 45, 67);
        parses(8, "0:1,2:3,4:5,6:7;7:0", 5, 1, 23, 45, 67, 70);
        parses(8, "0:1;0:1;0:1;0:1;0:1;0:1;0:1;0:1;0:1;0:1;0:1;0:1;0:1;0:1;7:6", 15,
            1, 1, 1, 1, 1, 1, 1, 1, 1, 1, 1, 1, 1, 1, 76);
        String twice = "Within a layer of the text no wire occurs twice.";
        fails(twice, 4, "0:0", 2);
        fails(twice, 4, "0:1,0:2", 4);
        fails(twice, 4, "0:1,1:2", 4);
        fails(twice, 4, "0:1,2:0", 6);
        fails(twice, 4, "0:1,2:1", 6);
        fails(twice, 4, "0:1,2:2", 6);
        fails(twice, 8, "0:1,2:3,4:5,6:0", 14);
        fails(twice, 4, "0:1;2:3,2:1", 8);
        parses(4, "0:1,2:3;0:1,2:3", 4, 1, 23, 1, 23);
        String digit = "A digit that is no wire, or that occurred already in the same layer of the text, is such a character";
        for (int n = 2; n <= 8; n++) {
            parses(n, "0:" + (n - 1), 1, n - 1);
            parses(n, n - 1 + ":0", 1, 10 * (n - 1));
            fails(digit, n, "0:" + n, 2);
            fails(digit, n, n + ":0", 0);
            fails(digit, n, "0:9", 2);
            fails(digit, n, "9:0", 0);
        }
        fails(digit, 8, "/:0", 0);
        fails(digit, 8, ":", 0);
        fails(digit, 8, "0:/", 2);
        fails(digit, 8, "0::", 2);
        String follow = "a \",\" or \";\" can always follow a comparator.";
        fails(follow, 2, "0:1,", 4);
        fails(follow, 2, "0:1;", 4);
        fails(follow, 2, "0:1,0:1", 4);
        fails(follow, 8, "0:1,2:3,4:5,6:7,", 16);
        fails(follow, 8, "0:1,2:3,4:5,6:7,0:1", 16);
    }

    private static void errorPosition() {
        String first = "The error position is the index of the first character that cannot continue such a text";
        fails(first, 4, "x", 0);
        fails(first, 4, ";", 0);
        fails(first, 4, "00", 1);
        fails(first, 4, "0;1", 1);
        fails(first, 4, "0:x", 2);
        fails(first, 4, "0:1:", 3);
        fails(first, 4, "0:12:3", 3);
        fails(first, 4, "0:1,,", 4);
        fails(first, 4, "0:1;;", 4);
        fails(first, 4, "0:1;2x", 5);
        fails(first, 4, "0:1x0:0", 3);
        String fourteen = "0:1;0:1;0:1;0:1;0:1;0:1;0:1;0:1;0:1;0:1;0:1;0:1;0:1;0:1;";
        fails(first, 4, fourteen + "0:1x", 59);
        fails(first, 4, fourteen + "0:4;", 58);
        fails(first, 4, "x" + fourteen + "0:1", 0);
        String end = "or the length of the text if it ends too early.";
        fails(end, 4, "", 0);
        fails(end, 4, "0", 1);
        fails(end, 4, "0:", 2);
        fails(end, 4, "0:1,", 4);
        fails(end, 4, "0:1;", 4);
        fails(end, 4, "0:1;2", 5);
        fails(end, 4, "0:1;2:", 6);
        fails(end, 4, fourteen, 56);
        fails(end, 4, fourteen + "0:1;", 60);
        fails(end, 4, fourteen + "0:1,", 60);
    }

    private static void shelves() {
        String sentence = "There are 3 shelves, numbered from 0";
        for (int shelf = 0; shelf < 3; shelf++) {
            String s = "(" + shelf;
            Desk.test(0, "At first all are empty.").refused("discard" + s + ")", EMPTY)
                .refused("castBlock" + s + ", 0)", EMPTY).refused("blockSize" + s + ", 2)", EMPTY)
                .refused("applyBlock" + s + ", 0)", EMPTY);
            Desk.test(0, sentence).due("place" + s + ", 1, 0, 1)", 1).asks("castBlock" + s + ", 1)", 1)
                .asks("blockSize" + s + ", 2)", 1).due("applyBlock" + s + ", 0)", 1).due("discard" + s + ")", 1);
        }
        Desk desk = Desk.test(0, sentence).given("place(0, 1, 0, 1)", "place(1, 3, 0, 0)", "place(2, 5, 1, 1)");
        for (int no : NO_SHELVES) {
            String s = "(" + no;
            desk.refused("place" + s + ", 1, 0, 1)", NO_SUCH_ELEMENT).refused("discard" + s + ")", NO_SUCH_ELEMENT)
                .refused("castBlock" + s + ", 0)", NO_SUCH_ELEMENT).refused("blockSize" + s + ", 2)", NO_SUCH_ELEMENT)
                .refused("applyBlock" + s + ", 0)", NO_SUCH_ELEMENT);
        }
    }

    private static void appends(String sentence, String block, int wires, int... codes) {
        Desk.test(0, sentence).given("reset(0, " + wires + ")", "place(2, " + block + ")")
            .asks("blockSize(2, " + wires + ")", codes.length).due("applyBlock(2, 0)", codes.length)
            .holds(0, wires, codes);
    }

    private static void blocks() {
        String nothing = "kind 0 nothing";
        appends(nothing, "0, 0, 0", 2);
        appends(nothing, "0, 7, 7", 8);
        String gate = "a gate the comparator (a, b)";
        appends(gate, "1, 0, 1", 2, 1);
        appends(gate, "1, 1, 0", 2, 10);
        appends(gate, "1, 7, 0", 8, 70);
        appends(gate, "1, 0, 7", 8, 7);
        String twin = "a twin gate what a gate appends, and then (n - 1 - b, n - 1 - a)";
        appends(twin, "2, 0, 1", 2, 1, 1);
        appends(twin, "2, 1, 0", 2, 10, 10);
        appends(twin, "2, 0, 1", 3, 1, 12);
        appends(twin, "2, 7, 0", 8, 70, 70);
        appends(twin, "2, 0, 3", 8, 3, 47);
        String layer = "a layer the comparators (a, a + 1), (a + 2, a + 3), and so on, as long as both wires exist";
        appends(layer, "3, 0, 0", 2, 1);
        appends(layer, "3, 1, 0", 2);
        appends(layer, "3, 0, 0", 3, 1);
        appends(layer, "3, 1, 0", 3, 12);
        appends(layer, "3, 0, 0", 4, 1, 23);
        appends(layer, "3, 1, 0", 4, 12);
        appends(layer, "3, 0, 0", 7, 1, 23, 45);
        appends(layer, "3, 1, 0", 7, 12, 34, 56);
        appends(layer, "3, 0, 0", 8, 1, 23, 45, 67);
        appends(layer, "3, 1, 0", 8, 12, 34, 56);
        String repeated = "a repeated layer b times what a layer appends, where a and 1 - a take turns, beginning with a";
        appends(repeated, "4, 0, 0", 8);
        appends(repeated, "4, 1, 0", 2);
        appends(repeated, "4, 0, 1", 3, 1);
        appends(repeated, "4, 1, 1", 3, 12);
        appends(repeated, "4, 0, 2", 3, 1, 12);
        appends(repeated, "4, 1, 2", 2, 1);
        appends(repeated, "4, 0, 9", 3, 1, 12, 1, 12, 1, 12, 1, 12, 1);
        appends(repeated, "4, 1, 9", 2, 1, 1, 1, 1);
        appends(repeated, "4, 0, 9", 8, 1, 23, 45, 67, 12, 34, 56, 1, 23, 45, 67, 12, 34, 56, 1, 23, 45, 67, 12, 34, 56,
            1, 23, 45, 67, 12, 34, 56, 1, 23, 45, 67);
        String brick = "a brick what a repeated layer appends, and then, once more, what a layer with its own a appends.";
        appends(brick, "5, 0, 0", 3, 1);
        appends(brick, "5, 1, 0", 2);
        appends(brick, "5, 0, 1", 3, 1, 1);
        appends(brick, "5, 1, 1", 3, 12, 12);
        appends(brick, "5, 1, 2", 3, 12, 1, 12);
        appends(brick, "5, 0, 9", 3, 1, 12, 1, 12, 1, 12, 1, 12, 1, 1);
        appends(brick, "5, 0, 9", 8, 1, 23, 45, 67, 12, 34, 56, 1, 23, 45, 67, 12, 34, 56, 1, 23, 45, 67, 12, 34, 56,
            1, 23, 45, 67, 12, 34, 56, 1, 23, 45, 67, 1, 23, 45, 67);
    }

    private static void accepts(String sentence, String... blocks) {
        for (String block : blocks) {
            Desk.test(0, sentence).due("place(1, " + block + ")", 1)
                .asks("castBlock(1, 0)", Integer.parseInt(block.substring(0, 1)));
        }
    }

    private static void refuses(String sentence, String... blocks) {
        for (String block : blocks) {
            Desk.test(0, sentence).given("place(1, 2, 3, 5)").refused("place(1, " + block + ")", BAD_VALUE)
                .refused("place(0, " + block + ")", BAD_VALUE);
        }
    }

    private static void blockNumbers() {
        String gates = "For kinds 1 and 2, a and b are different numbers from 0 to 7";
        for (int kind = 1; kind <= 2; kind++) {
            String k = kind + ", ";
            accepts(gates, k + "0, 7", k + "7, 0", k + "0, 1", k + "1, 0", k + "6, 7");
            refuses(gates, k + "-1, 0", k + "0, -1", k + "8, 0", k + "0, 8", k + "0, 0", k + "7, 7", k + "8, 8",
                k + "-1, -1", k + LOWEST + ", 1", k + HIGHEST + ", 1", k + "1, " + LOWEST, k + "1, " + HIGHEST);
        }
        String layer = "for kind 3, a is 0 or 1, and b does not matter";
        accepts(layer, "3, 0, 0", "3, 1, 0", "3, 0, -1", "3, 1, 10", "3, 0, " + LOWEST, "3, 1, " + HIGHEST);
        refuses(layer, "3, 2, 0", "3, -1, 0", "3, " + LOWEST + ", 0", "3, " + HIGHEST + ", 0");
        String repeated = "for kinds 4 and 5, a is 0 or 1, and b is 0 to 9";
        for (int kind = 4; kind <= 5; kind++) {
            String k = kind + ", ";
            accepts(repeated, k + "0, 0", k + "1, 0", k + "0, 9", k + "1, 9");
            refuses(repeated, k + "2, 0", k + "-1, 0", k + "0, 10", k + "0, -1", k + "1, 10", k + "1, -1",
                k + "2, 9", k + "-1, 9", k + LOWEST + ", 0", k + HIGHEST + ", 0", k + "0, " + LOWEST,
                k + "0, " + HIGHEST);
        }
        accepts("for kind 0, neither matters.", "0, -1, -1", "0, 8, 8", "0, 3, 3", "0, " + LOWEST + ", " + HIGHEST,
            "0, " + HIGHEST + ", " + LOWEST);
    }

    /** Each change of the list once, on network 0, so that the networks stay the same where that can be. */
    private static void history() {
        String same = "even if the networks stay the same.";
        String[] changes = {"reset(3, 2)", "prune(0)", "reduce(0)", "standardize(0)", "mirror(1)", "build(0, 2, 3)",
            "concatenate(0, 1, 0)", "applyBlock(0, 0)"};
        for (String change : changes) {
            Desk desk = Desk.test(0, same).net(0, 2, 1).given("place(0, 0, 0, 0)", change).holds(0, 2, 1).holds(1, 2)
                .holds(2, 2).holds(3, 2);
            desk.due("undo()", 2).holds(0, 2, 1).due("undo()", 1).holds(0, 2).due("undo()", 0);
        }
        Desk.test(0, same).net(0, 2, 1).given("write 0:1", "parse(0)").due("undo()", 2).holds(0, 2, 1);
        String change = "A change is a call that returns no error code, of reset, add, insert, remove, parse, prune, reduce, "
            + "standardize, mirror, grow, build, concatenate, beside or applyBlock";
        String[][] real = {{"reset(0, 3)"}, {"add(0, 1, 0)"}, {"insert(0, 0, 1, 0)"}, {"remove(0, 1)"},
            {"write 1:0", "parse(0)"}, {"prune(0)"}, {"reduce(0)"}, {"standardize(0)"}, {"mirror(0)"}, {"grow(1)"},
            {"build(0, 4, 0)"}, {"concatenate(1, 1, 0)"}, {"beside(0, 0, 0)"}, {"applyBlock(0, 0)"}};
        for (String[] calls : real) {
            Desk.test(0, change).net(0, 2, 10, 1, 1).given("place(0, 1, 0, 1)").given(calls)
                .due("undo()", 4).holds(0, 2, 10, 1, 1).holds(1, 2).due("undo()", 3).holds(0, 2, 10, 1);
        }
        Desk.test(0, change).given("setKey(0, 1)", "run(0)", "append(48)", "clearText()", "place(0, 1, 0, 1)",
            "discard(0)", "wires(0)", "outputCount(0)", "missing(0, 2)", "candidate(0, 0, 0)").refused("undo()", NONE);
        Desk.test(0, change).net(0, 3, 1, 12).given("write 0:3").refusedTextGone("parse(0)", -102).due("undo()", 2);
        Desk desk = Desk.test(0, change).net(0, 3, 12).net(1, 2, 1);
        String[] errors = {"reset(0, 9)", "add(0, 1, 1)", "insert(0, 2, 0, 1)", "remove(0, 1)", "prune(4)", "reduce(0)",
            "standardize(4)", "mirror(4)", "grow(1)", "build(0, 3, 4)", "concatenate(0, 1, 0)", "beside(0, 1, 4)",
            "applyBlock(0, 0)", "parse(4)"};
        for (String error : errors) {
            desk.refused(error, answerOf(error));
        }
        desk.due("undo()", 3);
    }

    private static int answerOf(String error) {
        switch (error) {
            case "reset(0, 9)": case "add(0, 1, 1)": case "build(0, 3, 4)": case "concatenate(0, 1, 0)":
                return BAD_VALUE;
            case "reduce(0)": case "grow(1)":
                return STATE;
            case "applyBlock(0, 0)":
                return EMPTY;
            default:
                return NO_SUCH_ELEMENT;
        }
    }

    private static void historyWrapsAround() {
        String sentence = "The latest 12 changes can be undone, the latest first.";
        for (int changes = 0; changes <= 40; changes++) {
            Desk desk = Desk.test(0, sentence).given(changes + " x add(0, 0, 1)");
            int undoable = Math.min(12, changes);
            for (int k = 1; k <= undoable; k++) {
                desk.due("undo()", undoable - k).due("size(0)", changes - k);
            }
            desk.refused("undo()", NONE).asks("size(0)", changes - undoable);
        }
        Desk ring = Desk.test(0, sentence).given("12 x add(0, 0, 1)").due("undo()", 11).due("undo()", 10)
            .given("add(1, 0, 1)", "add(1, 0, 1)", "add(1, 0, 1)");
        ring.due("undo()", 11).asks("size(1)", 2).due("undo()", 10).due("undo()", 9).asks("size(1)", 0)
            .asks("size(0)", 10);
        for (int k = 8; k >= 0; k--) {
            ring.due("undo()", k).due("size(0)", k + 1);
        }
        ring.refused("undo()", NONE).asks("size(0)", 1);
        Desk empties = Desk.test(0, sentence);
        for (int round = 0; round < 30; round++) {
            empties.given("add(2, 1, 0)").due("undo()", 0).due("undo()", NONE).due("size(2)", 0);
        }
        String all = "Undoing a change makes all networks as they were before it.";
        Desk.test(0, all).net(0, 3, 12).net(1, 3, 20).given("reset(2, 5)", "beside(0, 1, 2)").holds(2, 6, 12, 53)
            .due("undo()", 5).holds(0, 3, 12).holds(1, 3, 20).holds(2, 5).holds(3, 2)
            .due("undo()", 4).holds(2, 2).due("undo()", 3).holds(1, 3).due("undo()", 2).holds(1, 2).holds(0, 3, 12);
        Desk.test(0, all).fill(0, 3, 40).given("reset(0, 8)").due("undo()", 11)
            .asks("wires(0)", 3).asks("size(0)", 40).asks("comparator(0, 39)", 1).asks("comparator(0, 0)", 1);
    }

    /** A desk with something everywhere, so that a refused call would show what it spoils. */
    static Desk rich(Desk desk) {
        return desk.fill(0, 3, 40).net(1, 3, 20, 1).net(2, 5, 43, 1, 12).given("reset(3, 7)", "setKey(0, 9)",
            "setKey(1, 4)", "setKey(2, 9)", "setKey(7, 99)", "run(1)", "place(0, 1, 6, 2)", "place(2, 5, 1, 2)",
            "write 0:1,2:3");
    }

    private static void errorsLeaveEverything() {
        Desk desk = rich(Desk.test(0, "A call that returns an error code leaves everything unchanged, "
            + "unless its description says otherwise."));
        String[] missingElements = {"reset(4, 3)", "wires(4)", "size(4)", "comparator(0, 40)", "add(0, 0, 3)",
            "insert(0, 41, 0, 1)", "remove(0, 40)", "layer(0, 40)", "depth(4)", "setKey(8, 1)", "run(4)", "result(3)",
            "origin(3)", "outputCount(4)", "outputOf(4, 0)", "isSorter(4)", "firstFailure(4)", "isSelector(0, 3)",
            "countSorted(4)", "firstUnsorted(4)", "totalExchanges(4)", "mostExchanges(4)", "isRedundant(0, 40)",
            "prune(4)", "reduce(4)", "standardize(4)", "mirror(4)", "candidate(4, 0, 0)", "grow(4)", "missing(4, 0)",
            "sameOutputs(0, 4)", "isIsomorphic(0, 4)", "subsumes(0, 4)", "build(4, 3, 0)", "isMerger(4, 0)",
            "concatenate(0, 1, 4)", "beside(0, 1, 4)", "place(3, 0, 0, 0)", "discard(3)", "castBlock(3, 0)",
            "blockSize(3, 3)", "applyBlock(3, 0)", "applyBlock(0, 4)"};
        for (String call : missingElements) {
            desk.refused(call, NO_SUCH_ELEMENT);
        }
        String[] badValues = {"reset(0, 9)", "add(0, 1, 1)", "insert(0, 0, 1, 1)", "append(32)", "setKey(0, 100)",
            "outputOf(0, 8)", "candidate(0, 3, 0)", "missing(0, 3)", "sameOutputs(0, 2)", "isIsomorphic(0, 2)",
            "subsumes(0, 2)", "build(0, 9, 0)", "isMerger(0, 4)", "concatenate(0, 2, 1)", "place(0, 6, 0, 0)",
            "castBlock(0, 6)", "blockSize(0, 9)"};
        for (String call : badValues) {
            desk.refused(call, BAD_VALUE);
        }
        desk.refused("add(0, 0, 1)", FULL).refused("insert(0, 0, 0, 1)", FULL).refused("grow(0)", FULL)
            .refused("concatenate(0, 1, 1)", FULL).refused("beside(0, 1, 1)", FULL).refused("applyBlock(2, 0)", FULL)
            .refused("reduce(0)", STATE).refused("blockSize(0, 3)", STATE).refused("applyBlock(0, 0)", STATE)
            .refused("missing(3, 2)", NONE).refused("subsumes(3, 3)", TOO_LARGE).refused("beside(3, 3, 0)", TOO_LARGE)
            .refused("discard(1)", EMPTY).refused("castBlock(1, 0)", EMPTY).refused("blockSize(1, 3)", EMPTY)
            .refused("applyBlock(1, 0)", EMPTY).refused("castBlock(0, 3)", WRONG_TYPE);
        rich(Desk.test(13, "in which case the network stays as it was.")).refusedTextGone("parse(0)", -106);
        rich(Desk.test(13, "The text buffer is empty afterwards, also after an error."))
            .refusedTextGone("parse(4)", NO_SUCH_ELEMENT);
        rich(Desk.test(11, "FULL if the text has 60 characters.")).given("53 x append(48)").refused("append(48)", FULL);
        rich(Desk.test(21, "Returns 1 if it is, 0 otherwise")).given("build(0, 8, 3)").asks("isSorter(0)", 1)
            .refused("firstFailure(0)", NONE).refused("firstUnsorted(0)", NONE).refused("grow(0)", STATE);
    }

    private static void orderOfCodes() {
        String sentence = "If several error codes are possible, the one that is mentioned first is returned, "
            + "unless the order is described.";
        rich(Desk.test(0, sentence))
            .refused("reset(4, 9)", NO_SUCH_ELEMENT).refused("reset(-1, 1)", NO_SUCH_ELEMENT)
            .refused("setKey(8, 100)", NO_SUCH_ELEMENT).refused("setKey(-1, -1)", NO_SUCH_ELEMENT)
            .refused("isMerger(4, -1)", NO_SUCH_ELEMENT).refused("build(4, 9, 4)", NO_SUCH_ELEMENT)
            .refused("candidate(4, -1, 2)", NO_SUCH_ELEMENT).refused("outputOf(4, -1)", NO_SUCH_ELEMENT)
            .refused("place(3, 6, 0, 0)", NO_SUCH_ELEMENT).refused("place(-1, 1, 3, 3)", NO_SUCH_ELEMENT)
            .refused("castBlock(3, 6)", NO_SUCH_ELEMENT).refused("castBlock(1, 6)", BAD_VALUE)
            .refused("castBlock(0, 6)", BAD_VALUE).refused("blockSize(3, 9)", NO_SUCH_ELEMENT)
            .refused("blockSize(1, 9)", BAD_VALUE).refused("applyBlock(1, 4)", NO_SUCH_ELEMENT)
            .refused("applyBlock(3, 4)", NO_SUCH_ELEMENT).refused("applyBlock(0, 0)", STATE);
    }
}
