/** The boundary cases that promises 19 to 28, 33, 35 to 38 and 40 name (questions about networks), a test for each. */
public final class ProofBoundaryTests implements Codes {
    public static void main(String[] args) {
        outputCount();
        outputOf();
        isSorter();
        firstFailure();
        isSelector();
        countSorted();
        firstUnsorted();
        exchanges();
        isRedundant();
        candidate();
        candidateOrder();
        missing();
        sameOutputs();
        isIsomorphic();
        subsumes();
        isMerger();
        largeAndSmallInTurn();
        Desk.finish("ProofBoundaryTests");
    }

    /** Comparators (0, 1) and (1, 0) in turn, 40 in all: each one but the first exchanges for every input. */
    private static Desk zigzag(Desk desk, int wires) {
        desk.given("reset(0, " + wires + ")");
        for (int k = 0; k < 20; k++) {
            desk.given("add(0, 0, 1)", "add(0, 1, 0)");
        }
        return desk;
    }

    /** A sorter with 40 comparators on 8 wires: 12 times (0, 1) and an insertion behind it. */
    private static Desk fullSorter(Desk desk) {
        return desk.fill(1, 8, 12).given("build(0, 8, 0)", "concatenate(1, 0, 0)");
    }

    private static void noNetwork(int promise, String sentence, String call) {
        Desk.test(promise, sentence).net(0, 3, 1).refused(call.replace("N", "4"), NO_SUCH_ELEMENT)
            .refused(call.replace("N", "-1"), NO_SUCH_ELEMENT);
    }

    private static void outputCount() {
        String sentence = "Returns the number of outputs; NO_SUCH_ELEMENT.";
        for (int n = 2; n <= 8; n++) {
            Desk.test(19, sentence).given("reset(0, " + n + ")").asks("outputCount(0)", 1 << n);
            Desk.test(19, sentence).net(0, n, 10 * (n - 1)).asks("outputCount(0)", 3 << n - 2);
            Desk.test(19, sentence).given("build(0, " + n + ", 3)").asks("outputCount(0)", n + 1);
        }
        fullSorter(Desk.test(19, sentence)).asks("outputCount(0)", 9);
        Desk.test(19, sentence).fill(0, 8, 40).asks("outputCount(0)", 192);
        noNetwork(19, sentence, "outputCount(N)");
    }

    private static void outputOf() {
        String bit = "BAD_VALUE if there is a bit that belongs to no wire.";
        for (int n = 2; n <= 8; n++) {
            int all = (1 << n) - 1;
            Desk.test(20, bit).given("build(0, " + n + ", 2)").asks("outputOf(0, 0)", 0)
                .asks("outputOf(0, " + all + ")", all).asks("outputOf(0, 1)", 1 << n - 1)
                .asks("outputOf(0, " + (all - 1) + ")", all - 1)
                .refused("outputOf(0, " + (all + 1) + ")", BAD_VALUE).refused("outputOf(0, " + (all + 2) + ")", BAD_VALUE)
                .refused("outputOf(0, -1)", BAD_VALUE).refused("outputOf(0, " + LOWEST + ")", BAD_VALUE)
                .refused("outputOf(0, " + HIGHEST + ")", BAD_VALUE);
        }
        Desk.test(20, bit).net(0, 8).asks("outputOf(0, 253)", 253);
        fullSorter(Desk.test(20, bit)).asks("outputOf(0, 127)", 254);
        String first = "NO_SUCH_ELEMENT if there is no such network (checked first)";
        noNetwork(20, first, "outputOf(N, 0)");
        noNetwork(20, first, "outputOf(N, 4)");
        noNetwork(20, first, "outputOf(N, -1)");
    }

    private static void isSorter() {
        String sentence = "Returns 1 if it is, 0 otherwise; NO_SUCH_ELEMENT.";
        for (int n = 2; n <= 8; n++) {
            Desk.test(21, sentence).given("reset(0, " + n + ")").asks("isSorter(0)", 0);
            Desk.test(21, sentence).given("build(0, " + n + ", 3)").asks("isSorter(0)", 1);
        }
        Desk.test(21, sentence).net(0, 2, 10).asks("isSorter(0)", 0);
        Desk.test(21, sentence).net(0, 2, 1).asks("isSorter(0)", 1);
        LimitTests.onlyLowestFails(Desk.test(21, sentence)).asks("isSorter(0)", 0);
        LimitTests.onlyHighestFails(Desk.test(21, sentence)).asks("isSorter(0)", 0);
        fullSorter(Desk.test(21, sentence)).asks("isSorter(0)", 1);
        fullSorter(Desk.test(21, sentence)).given("remove(0, 39)", "add(0, 1, 0)").asks("isSorter(0)", 0);
        noNetwork(21, sentence, "isSorter(N)");
    }

    private static void firstFailure() {
        String lowest = "Returns the lowest zero-one input, as a number, from which a network makes an output that is not sorted.";
        for (int n = 2; n <= 8; n++) {
            Desk.test(22, lowest).given("reset(0, " + n + ")").asks("firstFailure(0)", 1);
        }
        LimitTests.onlyLowestFails(Desk.test(22, lowest)).asks("firstFailure(0)", 1);
        LimitTests.onlyHighestFails(Desk.test(22, lowest)).asks("firstFailure(0)", 253);
        Desk.test(22, lowest).net(0, 3, 2, 12).asks("firstFailure(0)", 5);
        Desk.test(22, lowest).given("build(0, 8, 0)", "add(0, 1, 0)").asks("firstFailure(0)", 127);
        Desk.test(22, lowest).given("build(0, 7, 0)", "add(0, 6, 5)").asks("firstFailure(0)", 1);
        String none = "NO_SUCH_ELEMENT if there is no such network (checked first); NONE.";
        for (int n = 2; n <= 8; n++) {
            Desk.test(22, none).given("build(0, " + n + ", 3)").refused("firstFailure(0)", NONE);
        }
        fullSorter(Desk.test(22, none)).refused("firstFailure(0)", NONE);
        noNetwork(22, none, "firstFailure(N)");
    }

    private static void isSelector() {
        String sentence = "Returns 1 if it has, 0 otherwise; NO_SUCH_ELEMENT.";
        for (int n = 2; n <= 8; n++) {
            Desk empty = Desk.test(23, sentence).given("reset(0, " + n + ")");
            Desk sorter = Desk.test(23, sentence).given("build(0, " + n + ", 0)");
            for (int w = 0; w < n; w++) {
                empty.asks("isSelector(0, " + w + ")", 0);
                sorter.asks("isSelector(0, " + w + ")", 1);
            }
            for (int no : new int[] {-1, n, LOWEST, HIGHEST}) {
                sorter.refused("isSelector(0, " + no + ")", NO_SUCH_ELEMENT);
            }
        }
        String each = "Returns whether wire k has, for each permutation input, the value k at the end.";
        LimitTests.onlyLowestFails(Desk.test(23, each)).asks("isSelector(0, 0)", 1).asks("isSelector(0, 5)", 1)
            .asks("isSelector(0, 6)", 0).asks("isSelector(0, 7)", 0);
        LimitTests.onlyHighestFails(Desk.test(23, each)).asks("isSelector(0, 0)", 0).asks("isSelector(0, 1)", 0)
            .asks("isSelector(0, 2)", 1).asks("isSelector(0, 7)", 1);
        Desk.test(23, each).net(0, 3, 1, 2).asks("isSelector(0, 0)", 1).asks("isSelector(0, 1)", 0);
        Desk.test(23, each).net(0, 3, 2, 12).asks("isSelector(0, 2)", 1).asks("isSelector(0, 1)", 0);
        noNetwork(23, sentence, "isSelector(N, 0)");
        noNetwork(23, sentence, "isSelector(N, 9)");
    }

    private static void countSorted() {
        String sentence = "Returns the number of permutation inputs; NO_SUCH_ELEMENT.";
        int[] factorials = {1, 1, 2, 6, 24, 120, 720, 5040, 40320};
        for (int n = 2; n <= 8; n++) {
            Desk.test(24, sentence).given("reset(0, " + n + ")").asks("countSorted(0)", 1);
            Desk.test(24, sentence).net(0, n, 10).asks("countSorted(0)", 0);
            Desk.test(24, sentence).given("build(0, " + n + ", 1)").asks("countSorted(0)", factorials[n]);
        }
        LimitTests.onlyLowestFails(Desk.test(24, sentence)).asks("countSorted(0)", 40320 - 5040);
        LimitTests.onlyHighestFails(Desk.test(24, sentence)).asks("countSorted(0)", 40320 - 5040);
        noNetwork(24, sentence, "countSorted(N)");
    }

    private static void firstUnsorted() {
        String digits = "that on wire 0 being the digit of the highest order";
        int[] lastTwoTurned = {0, 0, 10, 21, 132, 1243, 12354, 123465, 1234576};
        int[] inOrder = {0, 0, 1, 12, 123, 1234, 12345, 123456, 1234567};
        for (int n = 2; n <= 8; n++) {
            Desk.test(25, digits).given("reset(0, " + n + ")").asks("firstUnsorted(0)", lastTwoTurned[n]);
            Desk.test(25, digits).net(0, n, 10).asks("firstUnsorted(0)", inOrder[n]);
        }
        LimitTests.onlyLowestFails(Desk.test(25, digits)).asks("firstUnsorted(0)", 70123456);
        LimitTests.onlyHighestFails(Desk.test(25, digits)).asks("firstUnsorted(0)", 10234567);
        String none = "NO_SUCH_ELEMENT if there is no such network (checked first); NONE.";
        for (int n = 2; n <= 8; n++) {
            Desk.test(25, none).given("build(0, " + n + ", 3)").refused("firstUnsorted(0)", NONE);
        }
        fullSorter(Desk.test(25, none)).refused("firstUnsorted(0)", NONE);
        noNetwork(25, none, "firstUnsorted(N)");
    }

    private static void exchanges() {
        String total = "Returns the number of exchanges; NO_SUCH_ELEMENT.";
        for (int n = 2; n <= 8; n++) {
            Desk.test(26, total).given("reset(0, " + n + ")").asks("totalExchanges(0)", 0);
            Desk.test(27, total).given("reset(0, " + n + ")").asks("mostExchanges(0)", 0);
            Desk.test(27, total).given("build(0, " + n + ", 0)").asks("mostExchanges(0)", n * (n - 1) / 2);
            zigzag(Desk.test(27, total), n).asks("mostExchanges(0)", 40);
            Desk.test(27, total).fill(0, n, 40).asks("mostExchanges(0)", 1);
        }
        Desk.test(26, total).net(0, 2, 1).asks("totalExchanges(0)", 1);
        zigzag(Desk.test(26, total), 2).asks("totalExchanges(0)", 1 + 2 * 39);
        zigzag(Desk.test(26, total), 8).asks("totalExchanges(0)", 20160 + 40320L * 39);
        Desk.test(26, total).fill(0, 8, 40).asks("totalExchanges(0)", 20160);
        Desk.test(26, total).given("build(0, 8, 0)").asks("totalExchanges(0)", 40320L * 14);
        noNetwork(26, total, "totalExchanges(N)");
        noNetwork(27, total, "mostExchanges(N)");
    }

    private static void isRedundant() {
        String never = "Returns 1 if it never does, 0 otherwise; NO_SUCH_ELEMENT.";
        Desk.test(28, never).net(0, 8, 7, 7, 70).asks("isRedundant(0, 0)", 0).asks("isRedundant(0, 1)", 1)
            .asks("isRedundant(0, 2)", 0).refused("isRedundant(0, 3)", NO_SUCH_ELEMENT)
            .refused("isRedundant(0, -1)", NO_SUCH_ELEMENT);
        Desk.test(28, never).fill(0, 2, 40).asks("isRedundant(0, 0)", 0).asks("isRedundant(0, 1)", 1)
            .asks("isRedundant(0, 39)", 1).refused("isRedundant(0, 40)", NO_SUCH_ELEMENT);
        zigzag(Desk.test(28, never), 8).asks("isRedundant(0, 39)", 0);
        Desk.test(28, never).refused("isRedundant(0, 0)", NO_SUCH_ELEMENT);
        LimitTests.onlyLowestFails(Desk.test(28, never)).given("add(0, 6, 7)", "add(0, 6, 7)")
            .asks("isRedundant(0, 27)", 0).asks("isRedundant(0, 28)", 1);
        LimitTests.onlyHighestFails(Desk.test(28, never)).given("add(0, 0, 1)", "add(0, 0, 1)")
            .asks("isRedundant(0, 27)", 0).asks("isRedundant(0, 28)", 1);
        noNetwork(28, never, "isRedundant(N, 0)");
    }

    private static void candidate() {
        String range = "BAD_VALUE if rank or what is out of range.";
        for (int n = 2; n <= 8; n++) {
            int pairs = n * (n - 1) / 2;
            int outputs = 3 << n - 2;
            Desk.test(33, range).given("reset(0, " + n + ")")
                .asks("candidate(0, 0, 0)", 1).asks("candidate(0, 0, 1)", outputs)
                .asks("candidate(0, " + (pairs - 1) + ", 0)", 10 * (n - 2) + n - 1)
                .asks("candidate(0, " + (pairs - 1) + ", 1)", outputs)
                .refused("candidate(0, " + pairs + ", 0)", BAD_VALUE).refused("candidate(0, " + pairs + ", 1)", BAD_VALUE)
                .refused("candidate(0, -1, 0)", BAD_VALUE).refused("candidate(0, -1, 1)", BAD_VALUE)
                .refused("candidate(0, " + LOWEST + ", 0)", BAD_VALUE)
                .refused("candidate(0, " + HIGHEST + ", 0)", BAD_VALUE);
        }
        Desk.test(33, range).refused("candidate(0, 0, 2)", BAD_VALUE).refused("candidate(0, 0, -1)", BAD_VALUE)
            .refused("candidate(0, 0, " + LOWEST + ")", BAD_VALUE).refused("candidate(0, 0, " + HIGHEST + ")", BAD_VALUE)
            .refused("candidate(0, 1, 2)", BAD_VALUE).refused("candidate(0, -1, -1)", BAD_VALUE);
        String first = "NO_SUCH_ELEMENT if there is no such network (checked first)";
        noNetwork(33, first, "candidate(N, 0, 0)");
        noNetwork(33, first, "candidate(N, 28, 0)");
        noNetwork(33, first, "candidate(N, -1, 2)");
    }

    private static void lists(Desk desk, int[] codes, int[] outputs) {
        for (int rank = 0; rank < codes.length; rank++) {
            desk.asks("candidate(0, " + rank + ", 0)", codes[rank]).asks("candidate(0, " + rank + ", 1)", outputs[rank]);
        }
        desk.refused("candidate(0, " + codes.length + ", 0)", BAD_VALUE);
    }

    private static void candidateOrder() {
        String order = "in ascending order of the number of outputs that the network would have then, and if these are equal, "
            + "of 10 * i + j.";
        lists(Desk.test(33, order).net(0, 3), new int[] {1, 2, 12}, new int[] {6, 6, 6});
        lists(Desk.test(33, order).net(0, 3, 1), new int[] {2, 12, 1}, new int[] {5, 5, 6});
        lists(Desk.test(33, order).net(0, 3, 12), new int[] {1, 2, 12}, new int[] {5, 5, 6});
        lists(Desk.test(33, order).given("build(0, 3, 0)"), new int[] {1, 2, 12}, new int[] {4, 4, 4});
        lists(Desk.test(33, order).fill(0, 3, 40), new int[] {2, 12, 1}, new int[] {5, 5, 6});
        lists(Desk.test(33, order).net(0, 2, 10), new int[] {1}, new int[] {3});
        LimitTests.onlyLowestFails(Desk.test(33, order)).asks("candidate(0, 0, 0)", 67).asks("candidate(0, 0, 1)", 9)
            .asks("candidate(0, 1, 0)", 1).asks("candidate(0, 1, 1)", 10).asks("candidate(0, 27, 0)", 57);
        LimitTests.onlyHighestFails(Desk.test(33, order)).asks("candidate(0, 0, 0)", 1).asks("candidate(0, 0, 1)", 9)
            .asks("candidate(0, 1, 0)", 2).asks("candidate(0, 1, 1)", 10).asks("candidate(0, 27, 0)", 67);
    }

    private static void missing() {
        String range = "BAD_VALUE if most is out of range (checked second)";
        Desk.test(35, range).asks("missing(0, 0)", NONE).asks("missing(0, 2)", 1).refused("missing(0, -1)", BAD_VALUE)
            .refused("missing(0, 3)", BAD_VALUE).refused("missing(0, " + LOWEST + ")", BAD_VALUE)
            .refused("missing(0, " + HIGHEST + ")", BAD_VALUE);
        Desk.test(35, range).given("build(0, 8, 3)").refused("missing(0, 3)", BAD_VALUE).refused("missing(0, -1)", BAD_VALUE);
        String first = "NO_SUCH_ELEMENT if there is no such network (checked first)";
        noNetwork(35, first, "missing(N, 0)");
        noNetwork(35, first, "missing(N, 3)");
        noNetwork(35, first, "missing(N, -1)");
        String more = "NONE if it is greater than most.";
        Desk.test(35, more).given("build(0, 8, 3)").asks("missing(0, 0)", 0).asks("missing(0, 1)", 0).asks("missing(0, 2)", 0);
        Desk.test(35, more).net(0, 4, 1, 23, 2, 13).refused("missing(0, 0)", NONE).asks("missing(0, 1)", 1)
            .asks("missing(0, 2)", 1);
        Desk.test(35, more).net(0, 4, 1, 23, 2).refused("missing(0, 0)", NONE).refused("missing(0, 1)", NONE)
            .asks("missing(0, 2)", 2);
        Desk.test(35, more).net(0, 4, 1, 23).refused("missing(0, 0)", NONE).refused("missing(0, 1)", NONE)
            .refused("missing(0, 2)", NONE);
        Desk.test(35, more).net(0, 3).refused("missing(0, 2)", NONE);
        Desk.test(35, more).net(0, 8).refused("missing(0, 2)", NONE);
        LimitTests.onlyLowestFails(Desk.test(35, more)).refused("missing(0, 0)", NONE).asks("missing(0, 1)", 1)
            .given("remove(0, 26)").refused("missing(0, 1)", NONE).asks("missing(0, 2)", 2)
            .given("remove(0, 25)").refused("missing(0, 2)", NONE);
        LimitTests.onlyHighestFails(Desk.test(35, more)).refused("missing(0, 0)", NONE).asks("missing(0, 1)", 1);
        Desk.test(35, more).net(0, 3, 12).refused("missing(0, 1)", NONE).asks("missing(0, 2)", 2);
        Desk.test(35, more).net(0, 3, 2).refused("missing(0, 1)", NONE).asks("missing(0, 2)", 2);
        String room = "regardless of the room.";
        Desk.test(35, room).fill(0, 3, 40).refused("missing(0, 1)", NONE).asks("missing(0, 2)", 2);
        Desk.test(35, room).fill(0, 3, 39).asks("missing(0, 2)", 2).due("add(0, 1, 2)", 40).asks("missing(0, 1)", 1);
        Desk.test(35, room).fill(0, 2, 40).asks("missing(0, 0)", 0);
        String ascending = "(i, j) with i less than j";
        Desk.test(35, ascending).net(0, 3, 1, 21, 1).refused("missing(0, 1)", NONE).asks("missing(0, 2)", 2);
    }

    private static void twoNetworks(int promise, String name) {
        String first = "NO_SUCH_ELEMENT if there is no such network (checked first)";
        Desk.test(promise, first).given("reset(0, 3)", "reset(1, 8)").refused(name + "(4, 0)", NO_SUCH_ELEMENT)
            .refused(name + "(0, 4)", NO_SUCH_ELEMENT).refused(name + "(-1, 0)", NO_SUCH_ELEMENT)
            .refused(name + "(0, -1)", NO_SUCH_ELEMENT).refused(name + "(4, 4)", NO_SUCH_ELEMENT)
            .refused(name + "(1, 4)", NO_SUCH_ELEMENT).refused(name + "(-1, 1)", NO_SUCH_ELEMENT);
        String differ = "BAD_VALUE if their numbers of wires differ";
        Desk.test(promise, differ).given("reset(0, 3)").refused(name + "(0, 1)", BAD_VALUE)
            .refused(name + "(1, 0)", BAD_VALUE).asks(name + "(0, 0)", 1).asks(name + "(1, 2)", 1);
        Desk.test(promise, differ).given("reset(0, 8)", "reset(1, 7)").refused(name + "(0, 1)", BAD_VALUE)
            .refused(name + "(1, 0)", BAD_VALUE).refused(name + "(3, 0)", BAD_VALUE);
    }

    private static void sameOutputs() {
        twoNetworks(36, "sameOutputs");
        String same = "Returns whether two networks have the same outputs.";
        for (int n = 2; n <= 8; n++) {
            Desk.test(36, same).given("build(0, " + n + ", 0)", "build(1, " + n + ", 3)", "reset(2, " + n + ")",
                "reset(3, " + n + ")").asks("sameOutputs(0, 1)", 1).asks("sameOutputs(2, 3)", 1)
                .asks("sameOutputs(0, 2)", 0).asks("sameOutputs(2, 0)", 0).asks("sameOutputs(3, 3)", 1);
        }
        LimitTests.onlyLowestFails(Desk.test(36, same)).given("build(1, 8, 3)").asks("sameOutputs(0, 1)", 0)
            .asks("sameOutputs(1, 0)", 0);
        LimitTests.onlyHighestFails(Desk.test(36, same)).given("build(1, 8, 3)").asks("sameOutputs(0, 1)", 0)
            .asks("sameOutputs(1, 0)", 0);
        Desk.test(36, same).fill(0, 8, 40).fill(1, 8, 1).asks("sameOutputs(0, 1)", 1);
        Desk.test(36, same).net(0, 2, 1).net(1, 2, 10).asks("sameOutputs(0, 1)", 0);
    }

    private static void isIsomorphic() {
        twoNetworks(37, "isIsomorphic");
        String same = "the networks have the same number of comparators";
        Desk.test(37, same).net(0, 2, 1).asks("isIsomorphic(0, 1)", 0).asks("isIsomorphic(1, 0)", 0);
        Desk.test(37, same).fill(0, 2, 40).fill(1, 2, 39).asks("isIsomorphic(0, 1)", 0).asks("isIsomorphic(1, 0)", 0)
            .due("add(1, 0, 1)", 40).asks("isIsomorphic(0, 1)", 1);
        for (int n = 2; n <= 8; n++) {
            Desk.test(37, same).given("reset(0, " + n + ")", "reset(1, " + n + ")").asks("isIsomorphic(0, 1)", 1);
            Desk.test(37, same).net(0, n, n - 1).net(1, n, 10).asks("isIsomorphic(0, 1)", 1);
        }
        String each = "for each position, (p(i), p(j)) is the comparator of the second network if (i, j) is that of the first one";
        Desk.test(37, each).fill(0, 3, 39).fill(1, 3, 39).given("add(0, 0, 1)", "add(1, 1, 0)")
            .asks("isIsomorphic(0, 1)", 0).asks("isIsomorphic(1, 0)", 0);
        Desk.test(37, each).fill(0, 3, 39).fill(1, 3, 39).given("add(0, 0, 1)", "add(1, 0, 2)")
            .asks("isIsomorphic(0, 1)", 0).asks("isIsomorphic(1, 0)", 0);
        Desk.test(37, each).net(0, 8, 1, 23, 45, 67, 7).net(1, 8, 76, 54, 32, 10, 70).asks("isIsomorphic(0, 1)", 1);
        Desk.test(37, each).net(0, 8, 1, 23, 45, 67, 7).net(1, 8, 76, 54, 32, 10, 7).asks("isIsomorphic(0, 1)", 0);
        Desk.test(37, "there is a permutation p of the wires").net(0, 3, 1, 2).net(1, 3, 1, 1)
            .asks("isIsomorphic(0, 1)", 0).asks("isIsomorphic(1, 0)", 0);
    }

    private static void subsumes() {
        twoNetworks(38, "subsumes");
        String large = "TOO_LARGE if they have more than 6 wires.";
        Desk.test(38, large).given("reset(0, 6)", "build(1, 6, 3)").asks("subsumes(1, 0)", 1).asks("subsumes(0, 1)", 0)
            .asks("subsumes(0, 0)", 1);
        Desk.test(38, large).given("reset(0, 7)", "build(1, 7, 3)").refused("subsumes(1, 0)", TOO_LARGE)
            .refused("subsumes(0, 0)", TOO_LARGE);
        Desk.test(38, large).given("reset(0, 8)").refused("subsumes(0, 0)", TOO_LARGE);
        String second = "BAD_VALUE if their numbers of wires differ (checked second)";
        Desk.test(38, second).given("reset(0, 7)", "reset(1, 8)", "reset(2, 6)").refused("subsumes(0, 1)", BAD_VALUE)
            .refused("subsumes(1, 0)", BAD_VALUE).refused("subsumes(0, 2)", BAD_VALUE).refused("subsumes(2, 0)", BAD_VALUE)
            .refused("subsumes(1, 2)", BAD_VALUE);
        Desk.test(38, "NO_SUCH_ELEMENT if there is no such network (checked first)").given("reset(0, 8)")
            .refused("subsumes(0, 4)", NO_SUCH_ELEMENT).refused("subsumes(-1, 0)", NO_SUCH_ELEMENT);
        String put = "if the value on each wire w is put on the wire p(w).";
        Desk.test(38, put).net(0, 2, 1).net(1, 2, 10).asks("subsumes(0, 1)", 1).asks("subsumes(1, 0)", 1);
        Desk.test(38, put).net(0, 6, 1, 12, 23, 34, 45).net(1, 6, 54, 43, 32, 21, 10).asks("subsumes(0, 1)", 1)
            .asks("subsumes(1, 0)", 1);
        Desk.test(38, put).net(0, 6, 1).net(1, 6, 54).asks("subsumes(0, 1)", 1).due("add(1, 0, 1)", 2)
            .asks("subsumes(0, 1)", 0).asks("subsumes(1, 0)", 1);
    }

    private static void isMerger() {
        String range = "`first`: the number of the first wires, 0 to the number of wires";
        for (int n = 2; n <= 8; n++) {
            Desk empty = Desk.test(40, range).given("reset(0, " + n + ")");
            Desk sorter = Desk.test(40, range).given("build(0, " + n + ", 3)");
            for (int first = 0; first <= n; first++) {
                empty.asks("isMerger(0, " + first + ")", first == 0 || first == n ? 1 : 0);
                sorter.asks("isMerger(0, " + first + ")", 1);
            }
            for (int no : new int[] {-1, n + 1, LOWEST, HIGHEST}) {
                sorter.refused("isMerger(0, " + no + ")", BAD_VALUE);
            }
        }
        String first = "NO_SUCH_ELEMENT if there is no such network (checked first); BAD_VALUE.";
        noNetwork(40, first, "isMerger(N, 0)");
        noNetwork(40, first, "isMerger(N, -1)");
        noNetwork(40, first, "isMerger(N, 9)");
        String sorts = "Returns whether a network sorts each zero-one input in which the values on the first wires, taken alone, "
            + "are sorted, and those on the other wires, taken alone, are sorted.";
        Desk.test(40, sorts).net(0, 2, 10).asks("isMerger(0, 0)", 0).asks("isMerger(0, 1)", 0).asks("isMerger(0, 2)", 0);
        Desk lowest = LimitTests.onlyLowestFails(Desk.test(40, sorts));
        Desk highest = LimitTests.onlyHighestFails(Desk.test(40, sorts));
        for (int wires = 0; wires <= 8; wires++) {
            lowest.asks("isMerger(0, " + wires + ")", wires == 1 ? 0 : 1);
            highest.asks("isMerger(0, " + wires + ")", wires == 1 ? 0 : 1);
        }
        Desk.test(40, sorts).net(0, 8, 4, 15, 26, 37, 24, 35, 12, 34, 56).asks("isMerger(0, 4)", 1)
            .asks("isMerger(0, 3)", 0).asks("isMerger(0, 5)", 0);
        Desk.test(40, sorts).fill(0, 8, 40).asks("isMerger(0, 0)", 1).asks("isMerger(0, 1)", 0);
    }

    /** A question about a small network after one about a large network, and the other way round, on one object. */
    private static void largeAndSmallInTurn() {
        Desk desk = fullSorter(Desk.test(0, "Nothing is promised beyond the answers and state changes described above"))
            .given("reset(1, 8)", "reset(2, 2)").net(3, 3, 1);
        String[] questions = {"outputCount", "isSorter", "firstFailure", "countSorted", "firstUnsorted",
            "totalExchanges", "mostExchanges", "depth"};
        long[][] answers = {{9, 256, 4, 6}, {1, 0, 0, 0}, {NONE, 1, 1, 1}, {40320, 1, 1, 2}, {NONE, 1234576, 10, 21},
            {564480, 0, 0, 3}, {28, 0, 0, 1}, {25, 0, 0, 1}};
        for (int k = 0; k < questions.length; k++) {
            for (int network : new int[] {0, 1, 2, 3, 1, 0, 3, 2}) {
                desk.due(questions[k] + "(" + network + ")", answers[k][network]);
            }
        }
        desk.due("candidate(1, 27, 0)", 67).due("candidate(2, 0, 0)", 1).due("candidate(2, 1, 0)", BAD_VALUE)
            .due("candidate(3, 2, 0)", 1).due("missing(1, 2)", NONE).due("missing(3, 2)", 2).due("missing(2, 2)", 1)
            .due("missing(0, 2)", 0).due("sameOutputs(0, 1)", 0).due("sameOutputs(2, 2)", 1).due("subsumes(3, 3)", 1)
            .due("isIsomorphic(0, 1)", 0).due("isIsomorphic(2, 2)", 1);
    }
}
