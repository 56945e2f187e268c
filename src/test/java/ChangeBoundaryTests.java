/** The boundary cases that promises 29 to 32, 34, 39 and 41 to 43 name (changes of whole networks), a test for each. */
public final class ChangeBoundaryTests implements Codes {
    public static void main(String[] args) {
        prune();
        reduce();
        standardize();
        mirror();
        grow();
        build();
        mergeExchange();
        concatenate();
        concatenateOrder();
        beside();
        besideOrder();
        undo();
        undoLeaves();
        Desk.finish("ChangeBoundaryTests");
    }

    /** Comparators (1, 0) and (0, 1) in turn, 40 in all. */
    private static Desk zigzag(Desk desk) {
        desk.given("reset(0, 2)");
        for (int k = 0; k < 20; k++) {
            desk.given("add(0, 1, 0)", "add(0, 0, 1)");
        }
        return desk;
    }

    private static void noNetwork(int promise, String sentence, String call) {
        Desk.test(promise, sentence).net(0, 3, 1).refused(call.replace("N", "4"), NO_SUCH_ELEMENT)
            .refused(call.replace("N", "-1"), NO_SUCH_ELEMENT);
    }

    private static void prune() {
        String removed = "Returns the number of comparators that were removed; NO_SUCH_ELEMENT.";
        Desk.test(29, removed).due("prune(0)", 0).holds(0, 2).due("undo()", 0);
        Desk.test(29, removed).net(0, 8, 70).due("prune(0)", 0).holds(0, 8, 70);
        Desk.test(29, removed).fill(0, 8, 40).due("prune(0)", 39).holds(0, 8, 1).due("prune(0)", 0).due("undo()", 11)
            .due("undo()", 10).asks("size(0)", 40);
        zigzag(Desk.test(29, removed)).due("prune(0)", 0).asks("size(0)", 40).asks("comparator(0, 39)", 1);
        String all = "Removes all comparators that exchange values for no zero-one input.";
        LimitTests.onlyLowestFails(Desk.test(29, all)).given("add(0, 6, 7)", "add(0, 0, 7)").due("prune(0)", 1)
            .asks("size(0)", 28).asks("comparator(0, 27)", 67);
        LimitTests.onlyHighestFails(Desk.test(29, all)).given("add(0, 0, 1)", "add(0, 0, 7)").due("prune(0)", 1)
            .asks("size(0)", 28).asks("comparator(0, 27)", 1);
        Desk.test(29, all).net(0, 3, 1, 1, 10, 10, 1, 12, 12).due("prune(0)", 3).holds(0, 3, 1, 10, 1, 12);
        noNetwork(29, removed, "prune(N)");
    }

    private static void reduce() {
        String state = "STATE if the network is no sorter.";
        Desk.test(30, state).refused("reduce(0)", STATE);
        Desk.test(30, state).given("reset(0, 8)").refused("reduce(0)", STATE);
        Desk.test(30, state).fill(0, 3, 40).refused("reduce(0)", STATE);
        Desk.test(30, state).net(0, 2, 1, 10).refused("reduce(0)", STATE);
        LimitTests.onlyLowestFails(Desk.test(30, state)).refused("reduce(0)", STATE);
        LimitTests.onlyHighestFails(Desk.test(30, state)).refused("reduce(0)", STATE);
        String removed = "Returns the number of comparators that were removed";
        Desk.test(30, removed).net(0, 2, 1).due("reduce(0)", 0).holds(0, 2, 1).due("undo()", 2).holds(0, 2, 1);
        Desk.test(30, removed).fill(0, 2, 40).due("reduce(0)", 39).holds(0, 2, 1).due("undo()", 11).asks("size(0)", 40);
        zigzag(Desk.test(30, removed)).due("reduce(0)", 39).holds(0, 2, 1);
        Desk.test(30, removed).given("build(0, 8, 3)").due("reduce(0)", 0).asks("size(0)", 19);
        String greatest = "the one with the greatest position.";
        Desk.test(30, greatest).net(0, 2, 10, 1).due("reduce(0)", 1).holds(0, 2, 1);
        Desk.test(30, greatest).net(0, 2, 1, 10, 1).due("reduce(0)", 2).holds(0, 2, 1);
        Desk.test(30, greatest).net(0, 3, 1, 12, 1, 12).due("reduce(0)", 1).holds(0, 3, 1, 12, 1);
        Desk.test(30, greatest).net(0, 3, 12, 1, 12, 1).due("reduce(0)", 1).holds(0, 3, 12, 1, 12);
        Desk.test(30, greatest).net(0, 3, 20, 1, 12, 1).due("reduce(0)", 1).holds(0, 3, 1, 12, 1);
        noNetwork(30, "NO_SUCH_ELEMENT if there is no such network (checked first)", "reduce(N)");
    }

    private static void standardize() {
        String turned = "Returns the number of comparators that were turned around in this way; NO_SUCH_ELEMENT.";
        Desk.test(31, turned).due("standardize(0)", 0).holds(0, 2).due("undo()", 0);
        Desk.test(31, turned).fill(0, 8, 40).due("standardize(0)", 0).asks("size(0)", 40);
        Desk.test(31, turned).net(0, 8, 70).due("standardize(0)", 1).holds(0, 8, 7);
        Desk all = zigzag(Desk.test(31, turned)).due("standardize(0)", 40);
        for (int p = 0; p < 40; p++) {
            all.due("comparator(0, " + p + ")", 1);
        }
        Desk.test(31, turned).given("reset(0, 2)", "40 x add(0, 1, 0)").due("standardize(0)", 1)
            .asks("comparator(0, 0)", 1).asks("comparator(0, 1)", 1).asks("comparator(0, 39)", 1);
        String behind = "the wires i and j change places in all comparators behind it.";
        Desk.test(31, behind).net(0, 8, 70, 7, 12).due("standardize(0)", 2).holds(0, 8, 7, 7, 12);
        Desk.test(31, behind).net(0, 8, 7, 70, 17).due("standardize(0)", 2).holds(0, 8, 7, 7, 1);
        Desk.test(31, behind).net(0, 4, 1, 32, 13, 20).due("standardize(0)", 2).holds(0, 4, 1, 23, 12, 3);
        noNetwork(31, turned, "standardize(N)");
    }

    private static void mirror() {
        String number = "Returns the number of comparators; NO_SUCH_ELEMENT.";
        Desk.test(32, number).due("mirror(0)", 0).holds(0, 2).due("undo()", 0);
        Desk.test(32, number).fill(0, 8, 40).due("mirror(0)", 40).asks("comparator(0, 0)", 67)
            .asks("comparator(0, 39)", 67);
        String each = "Replaces each comparator (i, j) of a network with n wires by (n - 1 - j, n - 1 - i).";
        for (int n = 2; n <= 8; n++) {
            int last = n - 1;
            Desk.test(32, each).net(0, n, last, 10 * last, 1).due("mirror(0)", 3)
                .holds(0, n, last, 10 * last, 10 * (n - 2) + last);
        }
        noNetwork(32, number, "mirror(N)");
    }

    private static void grow() {
        String state = "STATE if the network is a sorter (checked second)";
        Desk.test(34, state).net(0, 2, 1).refused("grow(0)", STATE);
        Desk.test(34, state).given("build(0, 8, 3)").refused("grow(0)", STATE);
        Desk.test(34, state).fill(0, 2, 40).refused("grow(0)", STATE);
        Desk.test(34, state).fill(1, 8, 12).given("build(0, 8, 0)", "concatenate(1, 0, 0)").refused("grow(0)", STATE);
        String full = "FULL if it has 40 comparators.";
        Desk.test(34, full).fill(0, 3, 40).refused("grow(0)", FULL);
        Desk.test(34, full).fill(0, 3, 39).due("grow(0)", 5).asks("comparator(0, 39)", 2).refused("grow(0)", FULL);
        Desk.test(34, full).fill(0, 3, 38).due("grow(0)", 5).due("grow(0)", 4).asks("size(0)", 40)
            .refused("grow(0)", STATE);
        String outputs = "Returns the number of outputs of the network then";
        Desk.test(34, outputs).due("grow(0)", 3).holds(0, 2, 1).refused("grow(0)", STATE);
        Desk.test(34, outputs).net(0, 8).due("grow(0)", 192).holds(0, 8, 1).due("undo()", 1).holds(0, 8);
        Desk.test(34, outputs).net(0, 3, 1, 2).due("grow(0)", 4).holds(0, 3, 1, 2, 12);
        LimitTests.onlyLowestFails(Desk.test(34, outputs)).due("grow(0)", 9).asks("comparator(0, 27)", 67);
        LimitTests.onlyHighestFails(Desk.test(34, outputs)).due("grow(0)", 9).asks("comparator(0, 27)", 1);
        noNetwork(34, "NO_SUCH_ELEMENT if there is no such network (checked first)", "grow(N)");
    }

    private static void build() {
        String wires = "`wires`: the number of wires n, 2 to 8";
        int[] mergeSizes = {0, 0, 1, 3, 5, 9, 12, 16, 19};
        for (int n = 2; n <= 8; n++) {
            for (int method = 0; method <= 3; method++) {
                int size = method == 3 ? mergeSizes[n] : n * (n - 1) / 2;
                Desk.test(39, wires).fill(1, 5, 40).due("build(1, " + n + ", " + method + ")", size)
                    .asks("wires(1)", n).asks("size(1)", size).asks("isSorter(1)", 1).due("undo()", 11)
                    .asks("wires(1)", 5).asks("size(1)", 40);
            }
        }
        for (int method = 0; method <= 3; method++) {
            Desk.test(39, wires).due("build(0, 2, " + method + ")", 1).holds(0, 2, 1);
            Desk.test(39, wires).net(0, 4, 32).refused("build(0, 1, " + method + ")", BAD_VALUE)
                .refused("build(0, 9, " + method + ")", BAD_VALUE).refused("build(0, 0, " + method + ")", BAD_VALUE)
                .refused("build(0, -1, " + method + ")", BAD_VALUE).refused("build(0, 16, " + method + ")", BAD_VALUE);
        }
        String methods = "`method`: 0 for insertion, 1 for bubbles, 2 for transposition, 3 for merge exchange";
        Desk.test(39, methods).net(0, 4, 32).refused("build(0, 4, -1)", BAD_VALUE).refused("build(0, 4, 4)", BAD_VALUE)
            .refused("build(0, 4, " + LOWEST + ")", BAD_VALUE).refused("build(0, 4, " + HIGHEST + ")", BAD_VALUE)
            .refused("build(0, 9, 4)", BAD_VALUE).refused("build(0, 1, -1)", BAD_VALUE);
        Desk.test(39, "for each w from 1 to n - 1, the comparators (v - 1, v) for v from w down to 1.")
            .due("build(0, 3, 0)", 3).holds(0, 3, 1, 12, 1);
        Desk.test(39, "for each w from n - 1 down to 1, the comparators (v, v + 1) for v from 0 to w - 1.")
            .due("build(0, 3, 1)", 3).holds(0, 3, 1, 12, 1).due("build(0, 4, 1)", 6).holds(0, 4, 1, 12, 23, 1, 12, 1);
        Desk.test(39, "for all v that are r % 2 or greater by an even number, as long as v + 1 is a wire.")
            .due("build(0, 3, 2)", 3).holds(0, 3, 1, 12, 1).due("build(0, 4, 2)", 6).holds(0, 4, 1, 23, 12, 1, 23, 12);
        String first = "NO_SUCH_ELEMENT if there is no such network (checked first); BAD_VALUE.";
        noNetwork(39, first, "build(N, 4, 0)");
        noNetwork(39, first, "build(N, 9, 0)");
        noNetwork(39, first, "build(N, 4, 4)");
        noNetwork(39, first, "build(N, 1, -1)");
    }

    private static void mergeExchange() {
        String least = "let t be the least number with 2^t >= n.";
        Desk.test(39, least).due("build(0, 2, 3)", 1).holds(0, 2, 1);
        Desk.test(39, least).due("build(0, 3, 3)", 3).holds(0, 3, 2, 1, 12);
        Desk.test(39, least).due("build(0, 4, 3)", 5).holds(0, 4, 2, 13, 1, 23, 12);
        Desk.test(39, least).due("build(0, 5, 3)", 9).holds(0, 5, 4, 2, 13, 24, 1, 23, 14, 12, 34);
        String each = "for each v from 0 to n - d - 1 in ascending order such that v & p is equal to r";
        Desk.test(39, each).due("build(0, 6, 3)", 12).holds(0, 6, 4, 15, 2, 13, 24, 35, 1, 23, 45, 14, 12, 34);
        Desk.test(39, each).due("build(0, 7, 3)", 16)
            .holds(0, 7, 4, 15, 26, 2, 13, 46, 24, 35, 1, 23, 45, 14, 36, 12, 34, 56);
        Desk.test(39, each).due("build(0, 8, 3)", 19)
            .holds(0, 8, 4, 15, 26, 37, 2, 13, 46, 57, 24, 35, 1, 23, 45, 67, 14, 36, 12, 34, 56);
    }

    private static void joins(int sizeA, int sizeB) {
        String full = "FULL if there would be more than 40 comparators.";
        Desk a = Desk.test(41, full).fill(0, 3, sizeA).fill(1, 3, sizeB).net(2, 5, 43);
        Desk b = Desk.test(42, full).fill(0, 3, sizeA).fill(1, 4, sizeB).net(2, 5, 43);
        if (sizeA + sizeB > 40) {
            a.refused("concatenate(0, 1, 2)", FULL).refused("concatenate(1, 0, 2)", FULL)
                .refused("concatenate(0, 1, 0)", FULL).refused("concatenate(0, 1, 1)", FULL);
            b.refused("beside(0, 1, 2)", FULL).refused("beside(1, 0, 2)", FULL).refused("beside(0, 1, 0)", FULL)
                .refused("beside(0, 1, 1)", FULL);
            return;
        }
        a.due("concatenate(0, 1, 2)", sizeA + sizeB).asks("size(2)", sizeA + sizeB).asks("wires(2)", 3);
        b.due("beside(0, 1, 2)", 7).asks("size(2)", sizeA + sizeB).asks("wires(2)", 7);
        if (sizeA > 0) {
            b.asks("comparator(2, 0)", 1).asks("comparator(2, " + (sizeA - 1) + ")", 1);
        }
        if (sizeB > 0) {
            b.asks("comparator(2, " + sizeA + ")", 34).asks("comparator(2, " + (sizeA + sizeB - 1) + ")", 34);
        }
    }

    private static void concatenate() {
        int[][] sizes = {{0, 0}, {0, 40}, {40, 0}, {1, 39}, {39, 1}, {20, 20}, {1, 40}, {40, 1}, {20, 21}, {21, 20},
            {2, 39}, {39, 2}, {40, 40}};
        for (int[] pair : sizes) {
            joins(pair[0], pair[1]);
        }
        String same = "`b`: the second network, 0 to 3, possibly the same";
        Desk.test(41, same).fill(0, 3, 20).due("concatenate(0, 0, 1)", 40).asks("size(1)", 40).asks("size(0)", 20);
        Desk.test(41, same).fill(0, 3, 21).refused("concatenate(0, 0, 1)", FULL);
        String to = "`to`: the network that is replaced, 0 to 3, possibly one of these";
        Desk.test(41, to).net(0, 3, 1, 12).net(1, 3, 20).due("concatenate(0, 1, 0)", 3).holds(0, 3, 1, 12, 20)
            .holds(1, 3, 20);
        Desk.test(41, to).net(0, 3, 1, 12).net(1, 3, 20).due("concatenate(0, 1, 1)", 3).holds(1, 3, 1, 12, 20)
            .holds(0, 3, 1, 12);
        Desk.test(41, to).net(0, 3, 1, 12).due("concatenate(0, 0, 0)", 4).holds(0, 3, 1, 12, 1, 12)
            .due("undo()", 3).holds(0, 3, 1, 12);
        Desk.test(41, to).fill(0, 3, 20).due("concatenate(0, 0, 0)", 40).refused("concatenate(0, 0, 0)", FULL);
        Desk.test(41, to).fill(3, 8, 40).due("concatenate(0, 1, 3)", 0).holds(3, 2).due("undo()", 11).asks("size(3)", 40);
    }

    private static void concatenateOrder() {
        String first = "NO_SUCH_ELEMENT if there is no such network (checked first)";
        Desk.test(41, first).fill(0, 3, 40).net(1, 4, 1).refused("concatenate(4, 0, 0)", NO_SUCH_ELEMENT)
            .refused("concatenate(0, 4, 0)", NO_SUCH_ELEMENT).refused("concatenate(0, 0, 4)", NO_SUCH_ELEMENT)
            .refused("concatenate(-1, 0, 0)", NO_SUCH_ELEMENT).refused("concatenate(0, -1, 0)", NO_SUCH_ELEMENT)
            .refused("concatenate(0, 0, -1)", NO_SUCH_ELEMENT).refused("concatenate(0, 1, 4)", NO_SUCH_ELEMENT)
            .refused("concatenate(1, 0, -1)", NO_SUCH_ELEMENT);
        String second = "BAD_VALUE if the numbers of wires of the first and the second network differ (checked second)";
        Desk.test(41, second).net(0, 3, 1).net(1, 4, 1).refused("concatenate(0, 1, 2)", BAD_VALUE)
            .refused("concatenate(1, 0, 0)", BAD_VALUE);
        Desk.test(41, second).fill(0, 3, 40).net(1, 4, 1).refused("concatenate(0, 1, 2)", BAD_VALUE)
            .refused("concatenate(1, 0, 2)", BAD_VALUE).refused("concatenate(0, 1, 0)", BAD_VALUE);
        Desk.test(41, second).net(0, 3, 1).net(1, 3, 12).given("reset(2, 8)").due("concatenate(0, 1, 2)", 2)
            .holds(2, 3, 1, 12);
    }

    private static void beside() {
        String large = "TOO_LARGE if there would be more than 8 wires (checked second)";
        for (int n = 2; n <= 8; n++) {
            for (int m = 2; m <= 8; m++) {
                Desk desk = Desk.test(42, large).net(0, n, 10 * (n - 1)).net(1, m, m - 1).given("reset(2, 5)");
                if (n + m > 8) {
                    desk.refused("beside(0, 1, 2)", TOO_LARGE);
                } else {
                    desk.due("beside(0, 1, 2)", n + m).holds(2, n + m, 10 * (n - 1), 10 * n + n + m - 1);
                }
            }
        }
        String same = "`b`: the second network, 0 to 3, possibly the same";
        Desk.test(42, same).fill(0, 4, 20).due("beside(0, 0, 1)", 8).asks("size(1)", 40).asks("comparator(1, 19)", 1)
            .asks("comparator(1, 20)", 45);
        Desk.test(42, same).fill(0, 4, 21).refused("beside(0, 0, 1)", FULL);
        Desk.test(42, same).net(0, 5).refused("beside(0, 0, 1)", TOO_LARGE);
        String to = "`to`: the network that is replaced, 0 to 3, possibly one of these";
        Desk.test(42, to).net(0, 3, 20).net(1, 2, 10).due("beside(0, 1, 0)", 5).holds(0, 5, 20, 43).holds(1, 2, 10);
        Desk.test(42, to).net(0, 3, 20).net(1, 2, 10).due("beside(0, 1, 1)", 5).holds(1, 5, 20, 43).holds(0, 3, 20);
        Desk.test(42, to).net(0, 4, 30).due("beside(0, 0, 0)", 8).holds(0, 8, 30, 74).refused("beside(0, 0, 0)", TOO_LARGE)
            .due("undo()", 2).holds(0, 4, 30);
        Desk.test(42, to).fill(3, 8, 40).due("beside(0, 1, 3)", 4).holds(3, 4).due("undo()", 11).asks("size(3)", 40);
    }

    private static void besideOrder() {
        String first = "NO_SUCH_ELEMENT if there is no such network (checked first)";
        Desk.test(42, first).fill(0, 8, 40).refused("beside(4, 0, 0)", NO_SUCH_ELEMENT)
            .refused("beside(0, 4, 0)", NO_SUCH_ELEMENT).refused("beside(0, 0, 4)", NO_SUCH_ELEMENT)
            .refused("beside(-1, 0, 0)", NO_SUCH_ELEMENT).refused("beside(0, -1, 0)", NO_SUCH_ELEMENT)
            .refused("beside(0, 0, -1)", NO_SUCH_ELEMENT).refused("beside(1, 1, 4)", NO_SUCH_ELEMENT);
        String second = "TOO_LARGE if there would be more than 8 wires (checked second)";
        Desk.test(42, second).fill(0, 8, 40).net(1, 2, 1).refused("beside(0, 1, 2)", TOO_LARGE)
            .refused("beside(1, 0, 2)", TOO_LARGE).refused("beside(0, 0, 0)", TOO_LARGE);
        Desk.test(42, "FULL if there would be more than 40 comparators.").fill(0, 6, 40).net(1, 2, 1)
            .refused("beside(0, 1, 2)", FULL).refused("beside(1, 0, 2)", FULL);
    }

    private static void undo() {
        String none = "NONE if no change can be undone.";
        Desk.test(43, none).refused("undo()", NONE);
        Desk.test(43, none).given("add(0, 0, 1)").due("undo()", 0).refused("undo()", NONE).holds(0, 2);
        Desk.test(43, none).refused("add(0, 0, 0)", BAD_VALUE).refused("undo()", NONE);
        Desk.test(43, none).given("13 x add(0, 0, 1)", "12 x undo()").refused("undo()", NONE).holds(0, 2, 1);
        String still = "Returns the number of changes that can still be undone";
        Desk.test(43, still).given("11 x add(0, 0, 1)").due("undo()", 10).asks("size(0)", 10);
        Desk.test(43, still).given("12 x add(0, 0, 1)").due("undo()", 11).asks("size(0)", 11);
        Desk.test(43, still).given("13 x add(0, 0, 1)").due("undo()", 11).asks("size(0)", 12);
        Desk.test(43, still).given("40 x add(0, 0, 1)").due("undo()", 11).asks("size(0)", 39);
        Desk.test(43, still).given("400 x mirror(0)").due("undo()", 11).given("11 x undo()").refused("undo()", NONE);
        String latest = "Undoes the latest change that was not undone.";
        Desk.test(43, latest).net(0, 3, 1, 12).due("undo()", 2).holds(0, 3, 1).due("undo()", 1).holds(0, 3)
            .due("undo()", 0).holds(0, 2).refused("undo()", NONE);
        Desk.test(43, latest).net(0, 3, 1, 12).due("undo()", 2).given("add(0, 2, 0)").holds(0, 3, 1, 20)
            .due("undo()", 2).holds(0, 3, 1).due("undo()", 1).holds(0, 3);
        Desk.test(43, latest).given("12 x add(0, 0, 1)").due("undo()", 11).given("add(1, 1, 0)").due("undo()", 11)
            .holds(1, 2).due("undo()", 10).asks("size(0)", 10);
        Desk.test(43, latest).given("add(0, 0, 1)", "add(1, 1, 0)", "add(0, 1, 0)").due("undo()", 2).holds(0, 2, 1)
            .holds(1, 2, 10).due("undo()", 1).holds(0, 2, 1).holds(1, 2).due("undo()", 0).holds(0, 2);
    }

    private static void undoLeaves() {
        String all = "Undoes the latest change that was not undone.";
        Desk desk = LimitTests.rich(Desk.test(43, all)).given("mirror(3)").due("undo()", 11);
        desk.asks("result(0)", 4).asks("origin(0)", 1).asks("isStable()", 1).asks("castBlock(0, 0)", 1)
            .asks("castBlock(2, 0)", 5).due("setKey(7, 0)", 99).due("clearText()", 7);
        Desk.test(43, all).given("write 1:0", "parse(0)", "undo()").due("clearText()", 0).holds(0, 2);
        Desk.test(43, all).given("place(0, 1, 0, 1)", "applyBlock(0, 0)", "discard(0)").due("undo()", 0).holds(0, 2)
            .refused("discard(0)", EMPTY);
    }
}
