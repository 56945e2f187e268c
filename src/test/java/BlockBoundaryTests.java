/** The boundary cases that promises 44 to 48 name (blocks on shelves), a test for each. */
public final class BlockBoundaryTests implements Codes {
    private static final int[] NO_SHELVES = {-1, 3, LOWEST, HIGHEST};

    /** For each kind the kinds that it is of: itself, its parent, that one's parent, and so on. */
    private static final int[][] OF_KINDS = {{0}, {0, 1}, {0, 1, 2}, {0, 3}, {0, 3, 4}, {0, 3, 4, 5}};

    public static void main(String[] args) {
        place();
        discard();
        castBlock();
        blockSize();
        blockSizeTable();
        applyBlock();
        applyBlockFull();
        applyBlockOrder();
        Desk.finish("BlockBoundaryTests");
    }

    private static void place() {
        String shelf = "`shelf`: the shelf, 0 to 2";
        Desk.test(44, shelf).due("place(0, 0, 0, 0)", 1).due("place(2, 0, 0, 0)", 2).due("place(1, 0, 0, 0)", 3);
        Desk desk = Desk.test(44, shelf).given("place(0, 1, 0, 1)");
        for (int no : NO_SHELVES) {
            desk.refused("place(" + no + ", 0, 0, 0)", NO_SUCH_ELEMENT);
        }
        String kind = "`kind`: the kind, 0 to 5";
        for (int k = 0; k <= 5; k++) {
            Desk.test(44, kind).due("place(1, " + k + ", 0, 1)", 1).asks("castBlock(1, 0)", k);
        }
        Desk kinds = Desk.test(44, kind).given("place(1, 1, 0, 1)");
        for (int no : new int[] {-1, 6, LOWEST, HIGHEST}) {
            kinds.refused("place(1, " + no + ", 0, 1)", BAD_VALUE).refused("place(0, " + no + ", 0, 1)", BAD_VALUE);
        }
        String instead = "Puts a new block on a shelf, in place of what it holds.";
        Desk.test(44, instead).due("place(1, 1, 0, 1)", 1).due("place(1, 3, 1, 0)", 1).asks("castBlock(1, 0)", 3)
            .due("place(1, 0, 0, 0)", 1).asks("castBlock(1, 0)", 0);
        Desk.test(44, instead).given("place(0, 1, 0, 1)", "place(1, 2, 0, 1)", "place(2, 3, 0, 0)")
            .due("place(2, 4, 0, 1)", 3).asks("castBlock(0, 0)", 1).asks("castBlock(1, 0)", 2).asks("castBlock(2, 0)", 4);
        String number = "Returns the number of blocks on all shelves";
        Desk.test(44, number).due("place(2, 0, 0, 0)", 1).due("place(0, 0, 0, 0)", 2).due("discard(2)", 0)
            .due("place(0, 0, 0, 0)", 1).due("place(1, 0, 0, 0)", 2).due("place(2, 0, 0, 0)", 3).due("place(2, 0, 0, 0)", 3);
        String range = "BAD_VALUE if kind, a or b is out of range for this kind.";
        Desk.test(44, range).given("place(0, 1, 0, 1)").refused("place(0, 1, 8, 0)", BAD_VALUE)
            .refused("place(0, 2, 0, 8)", BAD_VALUE).refused("place(0, 1, 4, 4)", BAD_VALUE)
            .refused("place(0, 3, 2, 0)", BAD_VALUE).refused("place(0, 4, 0, 10)", BAD_VALUE)
            .refused("place(0, 5, 0, -1)", BAD_VALUE).refused("place(0, 6, 0, 1)", BAD_VALUE).asks("blockSize(0, 2)", 1);
        Desk.test(44, range).due("place(0, 4, 0, 9)", 1).refused("place(0, 3, 9, 0)", BAD_VALUE)
            .due("place(0, 3, 0, 10)", 1).due("place(0, 0, 10, 10)", 1);
        String first = "NO_SUCH_ELEMENT if there is no such shelf (checked first)";
        Desk.test(44, first).refused("place(3, 6, 0, 0)", NO_SUCH_ELEMENT).refused("place(-1, -1, 0, 0)", NO_SUCH_ELEMENT)
            .refused("place(3, 1, 8, 8)", NO_SUCH_ELEMENT).refused("place(-1, 4, 0, 10)", NO_SUCH_ELEMENT);
    }

    private static void discard() {
        String kind = "Returns the kind of the block that it held";
        for (int k = 0; k <= 5; k++) {
            for (int shelf = 0; shelf <= 2; shelf++) {
                String s = "(" + shelf;
                Desk.test(45, kind).given("place" + s + ", " + k + ", 1, 0)").due("discard" + s + ")", k)
                    .refused("discard" + s + ")", EMPTY).due("place" + s + ", 0, 0, 0)", 1);
            }
        }
        String first = "NO_SUCH_ELEMENT if there is no such shelf (checked first); EMPTY.";
        Desk desk = Desk.test(45, first).given("place(0, 1, 0, 1)").refused("discard(1)", EMPTY)
            .refused("discard(2)", EMPTY);
        Desk full = Desk.test(45, first).given("place(0, 1, 0, 1)", "place(1, 1, 0, 1)", "place(2, 1, 0, 1)");
        for (int no : NO_SHELVES) {
            desk.refused("discard(" + no + ")", NO_SUCH_ELEMENT);
            full.refused("discard(" + no + ")", NO_SUCH_ELEMENT);
        }
        Desk.test(45, "Makes a shelf empty.").given("place(0, 1, 0, 1)", "place(1, 3, 0, 1)", "discard(0)")
            .refused("castBlock(0, 0)", EMPTY).refused("blockSize(0, 4)", EMPTY).refused("applyBlock(0, 0)", EMPTY)
            .asks("castBlock(1, 0)", 3);
    }

    private static void castBlock() {
        String check = "after a check that it is of a kind, or of a child of this kind, a child of that one, and so on.";
        for (int kind = 0; kind <= 5; kind++) {
            Desk desk = Desk.test(46, check).given("place(2, " + kind + ", 0, 1)");
            for (int wanted = 0; wanted <= 5; wanted++) {
                int answer = WRONG_TYPE;
                for (int one : OF_KINDS[kind]) {
                    answer = one == wanted ? kind : answer;
                }
                desk.asks("castBlock(2, " + wanted + ")", answer);
            }
        }
        String kind = "`kind`: the kind, 0 to 5";
        Desk.test(46, kind).given("place(0, 5, 0, 1)").asks("castBlock(0, 0)", 5).asks("castBlock(0, 5)", 5)
            .refused("castBlock(0, -1)", BAD_VALUE).refused("castBlock(0, 6)", BAD_VALUE)
            .refused("castBlock(0, " + LOWEST + ")", BAD_VALUE).refused("castBlock(0, " + HIGHEST + ")", BAD_VALUE);
        String first = "NO_SUCH_ELEMENT if there is no such shelf (checked first)";
        Desk desk = Desk.test(46, first);
        for (int no : NO_SHELVES) {
            desk.refused("castBlock(" + no + ", 0)", NO_SUCH_ELEMENT).refused("castBlock(" + no + ", 6)", NO_SUCH_ELEMENT)
                .refused("castBlock(" + no + ", -1)", NO_SUCH_ELEMENT);
        }
        String second = "BAD_VALUE if kind is out of range (checked second)";
        Desk.test(46, second).refused("castBlock(0, 6)", BAD_VALUE).refused("castBlock(2, -1)", BAD_VALUE);
        String third = "EMPTY (checked third); WRONG_TYPE.";
        Desk.test(46, third).refused("castBlock(0, 0)", EMPTY).refused("castBlock(0, 5)", EMPTY)
            .refused("castBlock(2, 3)", EMPTY);
        Desk.test(46, third).given("place(0, 1, 0, 1)").refused("castBlock(0, 2)", WRONG_TYPE)
            .refused("castBlock(1, 2)", EMPTY);
    }

    private static void blockSize() {
        String wires = "`wires`: the number of wires, 2 to 8";
        Desk.test(47, wires).given("place(0, 3, 0, 0)").asks("blockSize(0, 2)", 1).asks("blockSize(0, 8)", 4)
            .refused("blockSize(0, 1)", BAD_VALUE).refused("blockSize(0, 9)", BAD_VALUE)
            .refused("blockSize(0, 0)", BAD_VALUE).refused("blockSize(0, -1)", BAD_VALUE)
            .refused("blockSize(0, " + LOWEST + ")", BAD_VALUE).refused("blockSize(0, " + HIGHEST + ")", BAD_VALUE);
        String first = "NO_SUCH_ELEMENT if there is no such shelf (checked first)";
        Desk desk = Desk.test(47, first);
        for (int no : NO_SHELVES) {
            desk.refused("blockSize(" + no + ", 2)", NO_SUCH_ELEMENT).refused("blockSize(" + no + ", 1)", NO_SUCH_ELEMENT)
                .refused("blockSize(" + no + ", 9)", NO_SUCH_ELEMENT);
        }
        String second = "BAD_VALUE if wires is out of range (checked second)";
        Desk.test(47, second).refused("blockSize(0, 1)", BAD_VALUE).refused("blockSize(0, 9)", BAD_VALUE)
            .refused("blockSize(2, 1)", BAD_VALUE);
        Desk.test(47, second).given("place(0, 1, 6, 7)").refused("blockSize(0, 1)", BAD_VALUE)
            .refused("blockSize(0, 9)", BAD_VALUE);
        Desk.test(47, "EMPTY (checked third)").refused("blockSize(0, 2)", EMPTY).refused("blockSize(2, 8)", EMPTY);
        String state = "STATE if one of the comparators would have a wire that is not there.";
        for (int kind = 1; kind <= 2; kind++) {
            for (int n = 2; n <= 7; n++) {
                Desk.test(47, state).given("place(0, " + kind + ", 0, " + n + ")", "place(1, " + kind + ", " + n + ", 0)",
                    "place(2, " + kind + ", " + n + ", " + (n - 1) + ")")
                    .refused("blockSize(0, " + n + ")", STATE).refused("blockSize(1, " + n + ")", STATE)
                    .refused("blockSize(2, " + n + ")", STATE).asks("blockSize(0, " + (n + 1) + ")", kind)
                    .asks("blockSize(1, " + (n + 1) + ")", kind).asks("blockSize(2, " + (n + 1) + ")", kind);
            }
        }
        Desk.test(47, state).given("place(0, 1, 6, 7)").refused("blockSize(0, 6)", STATE).refused("blockSize(0, 2)", STATE);
    }

    private static void sizes(int kind, int a, int b, int... sizes) {
        Desk desk = Desk.test(47, "Returns how many comparators the block on a shelf appends to a network with a number of wires.")
            .given("place(1, " + kind + ", " + a + ", " + b + ")");
        for (int n = 2; n <= 8; n++) {
            desk.asks("blockSize(1, " + n + ")", sizes[n - 2]);
        }
    }

    private static void blockSizeTable() {
        sizes(0, LOWEST, HIGHEST, 0, 0, 0, 0, 0, 0, 0);
        sizes(1, 0, 1, 1, 1, 1, 1, 1, 1, 1);
        sizes(1, 7, 0, STATE, STATE, STATE, STATE, STATE, STATE, 1);
        sizes(2, 1, 0, 2, 2, 2, 2, 2, 2, 2);
        sizes(2, 0, 7, STATE, STATE, STATE, STATE, STATE, STATE, 2);
        sizes(3, 0, LOWEST, 1, 1, 2, 2, 3, 3, 4);
        sizes(3, 1, HIGHEST, 0, 1, 1, 2, 2, 3, 3);
        sizes(4, 0, 0, 0, 0, 0, 0, 0, 0, 0);
        sizes(4, 1, 0, 0, 0, 0, 0, 0, 0, 0);
        sizes(4, 0, 1, 1, 1, 2, 2, 3, 3, 4);
        sizes(4, 1, 1, 0, 1, 1, 2, 2, 3, 3);
        sizes(4, 0, 9, 5, 9, 14, 18, 23, 27, 32);
        sizes(4, 1, 9, 4, 9, 13, 18, 22, 27, 31);
        sizes(5, 0, 0, 1, 1, 2, 2, 3, 3, 4);
        sizes(5, 1, 0, 0, 1, 1, 2, 2, 3, 3);
        sizes(5, 0, 9, 6, 10, 16, 20, 26, 30, 36);
        sizes(5, 1, 9, 4, 10, 14, 20, 24, 30, 34);
    }

    private static void applyBlock() {
        String appends = "Appends to a network what the block on a shelf appends.";
        Desk.test(48, appends).net(0, 4, 30).given("place(0, 2, 0, 1)").due("applyBlock(0, 0)", 2).holds(0, 4, 30, 1, 23)
            .due("applyBlock(0, 0)", 2).holds(0, 4, 30, 1, 23, 1, 23).asks("castBlock(0, 0)", 2).due("undo()", 3)
            .holds(0, 4, 30, 1, 23);
        String number = "Returns the number of appended comparators";
        Desk.test(48, number).given("place(0, 0, 0, 0)").due("applyBlock(0, 0)", 0).holds(0, 2).due("undo()", 0);
        Desk.test(48, number).given("place(0, 3, 1, 0)").due("applyBlock(0, 0)", 0).holds(0, 2).due("undo()", 0);
        Desk.test(48, number).given("place(0, 4, 0, 0)").due("applyBlock(0, 0)", 0).holds(0, 2).due("undo()", 0);
        Desk.test(48, number).given("place(0, 5, 0, 9)", "reset(3, 8)").due("applyBlock(0, 3)", 36).asks("size(3)", 36)
            .asks("comparator(3, 35)", 67).asks("comparator(3, 32)", 1).asks("comparator(3, 31)", 67);
        String state = "STATE if one of the comparators would have a wire that is not there (checked third)";
        for (int n = 2; n <= 7; n++) {
            for (int kind = 1; kind <= 2; kind++) {
                Desk.test(48, state).net(0, n, 10).given("reset(1, " + (n + 1) + ")", "place(0, " + kind + ", " + n + ", 0)",
                    "place(1, " + kind + ", 0, " + n + ")").refused("applyBlock(0, 0)", STATE)
                    .refused("applyBlock(1, 0)", STATE).due("applyBlock(0, 1)", kind).due("applyBlock(1, 1)", kind);
            }
        }
    }

    private static void applyBlockFull() {
        String full = "FULL if there would be more than 40 comparators.";
        Desk.test(48, full).fill(0, 8, 4).given("place(0, 5, 0, 9)").due("applyBlock(0, 0)", 36).asks("size(0)", 40)
            .refused("applyBlock(0, 0)", FULL);
        Desk.test(48, full).fill(0, 8, 5).given("place(0, 5, 0, 9)").refused("applyBlock(0, 0)", FULL);
        Desk.test(48, full).fill(0, 3, 39).given("place(0, 1, 0, 2)").due("applyBlock(0, 0)", 1)
            .asks("comparator(0, 39)", 2).refused("applyBlock(0, 0)", FULL);
        Desk.test(48, full).fill(0, 3, 38).given("place(0, 2, 0, 2)").due("applyBlock(0, 0)", 2).asks("size(0)", 40);
        Desk.test(48, full).fill(0, 3, 39).given("place(0, 2, 0, 2)").refused("applyBlock(0, 0)", FULL);
        Desk.test(48, full).fill(0, 8, 36).given("place(0, 3, 0, 0)").due("applyBlock(0, 0)", 4).asks("size(0)", 40);
        Desk.test(48, full).fill(0, 8, 37).given("place(0, 3, 0, 0)").refused("applyBlock(0, 0)", FULL);
        for (String nothing : new String[] {"0, 0, 0", "3, 1, 0", "4, 0, 0", "5, 1, 0"}) {
            Desk.test(48, full).fill(0, 2, 40).given("place(0, " + nothing + ")").due("applyBlock(0, 0)", 0)
                .asks("size(0)", 40).due("undo()", 11).asks("size(0)", 40);
        }
    }

    private static void applyBlockOrder() {
        String first = "NO_SUCH_ELEMENT if there is no such shelf or network (checked first)";
        Desk empty = Desk.test(48, first);
        Desk held = Desk.test(48, first).fill(0, 2, 40).given("place(0, 1, 6, 7)", "place(1, 1, 0, 1)");
        for (int no : NO_SHELVES) {
            empty.refused("applyBlock(" + no + ", 0)", NO_SUCH_ELEMENT);
            held.refused("applyBlock(" + no + ", 0)", NO_SUCH_ELEMENT);
        }
        for (int no : new int[] {-1, 4, LOWEST, HIGHEST}) {
            empty.refused("applyBlock(0, " + no + ")", NO_SUCH_ELEMENT);
            held.refused("applyBlock(0, " + no + ")", NO_SUCH_ELEMENT).refused("applyBlock(1, " + no + ")", NO_SUCH_ELEMENT);
        }
        empty.refused("applyBlock(3, 4)", NO_SUCH_ELEMENT).refused("applyBlock(-1, -1)", NO_SUCH_ELEMENT);
        Desk.test(48, "EMPTY (checked second)").fill(0, 2, 40).refused("applyBlock(0, 0)", EMPTY)
            .refused("applyBlock(2, 3)", EMPTY);
        Desk.test(48, "(checked third); FULL if there would be more than 40 comparators.").fill(0, 2, 40)
            .given("place(0, 1, 0, 2)", "place(1, 2, 2, 0)", "place(2, 1, 0, 1)").refused("applyBlock(0, 0)", STATE)
            .refused("applyBlock(1, 0)", STATE).refused("applyBlock(2, 0)", FULL);
    }
}
