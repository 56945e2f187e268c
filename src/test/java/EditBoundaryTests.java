/** The boundary cases that promises 1 to 18 name (editing, text, keys and runs), a test for each. */
public final class EditBoundaryTests implements Codes {
    public static void main(String[] args) {
        newObject();
        reset();
        wiresAndSize();
        comparator();
        add();
        insert();
        remove();
        layer();
        depth();
        append();
        clearText();
        parse();
        setKey();
        run();
        resultAndOrigin();
        isStable();
        Desk.finish("EditBoundaryTests");
    }

    private static void newObject() {
        Desk desk = Desk.test(1, "Creates a workbench with 4 networks of 2 wires without comparators.");
        for (int network = 0; network < 4; network++) {
            desk.asks("wires(" + network + ")", 2).asks("size(" + network + ")", 0)
                .refused("comparator(" + network + ", 0)", NO_SUCH_ELEMENT);
        }
        desk.refused("wires(4)", NO_SUCH_ELEMENT).refused("undo()", NONE).refused("result(0)", STATE)
            .refused("discard(0)", EMPTY).asks("clearText()", 0);
    }

    private static void reset() {
        String wires = "`wires`: the number of wires, 2 to 8";
        Desk.test(2, wires).net(0, 5, 43).due("reset(0, 2)", 1).holds(0, 2);
        Desk.test(2, wires).net(0, 5, 43).due("reset(0, 8)", 1).holds(0, 8);
        Desk.test(2, wires).net(0, 5, 43).refused("reset(0, 1)", BAD_VALUE).refused("reset(0, 0)", BAD_VALUE);
        Desk.test(2, wires).net(0, 5, 43).refused("reset(0, 9)", BAD_VALUE);
        Desk.test(2, wires).net(0, 5, 43).refused("reset(0, " + LOWEST + ")", BAD_VALUE)
            .refused("reset(0, " + HIGHEST + ")", BAD_VALUE).refused("reset(0, -5)", BAD_VALUE);
        String previous = "Returns the previous number of comparators";
        Desk.test(2, previous).due("reset(3, 4)", 0).due("reset(3, 4)", 0);
        Desk.test(2, previous).fill(3, 2, 40).due("reset(3, 2)", 40).due("reset(3, 2)", 0);
        String removes = "Gives a network a number of wires and removes all its comparators.";
        Desk.test(2, removes).fill(3, 2, 40).given("reset(3, 2)").holds(3, 2)
            .refused("comparator(3, 0)", NO_SUCH_ELEMENT).refused("remove(3, 0)", NO_SUCH_ELEMENT)
            .due("add(3, 1, 0)", 1).holds(3, 2, 10);
        Desk.test(2, removes).net(3, 8, 76).given("reset(3, 7)").refused("add(3, 0, 7)", NO_SUCH_ELEMENT)
            .due("add(3, 0, 6)", 1);
        String first = "NO_SUCH_ELEMENT if there is no such network (checked first); BAD_VALUE.";
        Desk.test(2, first).refused("reset(4, 1)", NO_SUCH_ELEMENT).refused("reset(-1, 9)", NO_SUCH_ELEMENT)
            .refused("reset(4, 9)", NO_SUCH_ELEMENT).refused("reset(-1, 1)", NO_SUCH_ELEMENT);
    }

    private static void wiresAndSize() {
        for (int n = 2; n <= 8; n++) {
            Desk.test(3, "Returns the number of wires").given("reset(3, " + n + ")").asks("wires(3)", n)
                .asks("wires(0)", 2);
        }
        Desk.test(3, "Returns the number of wires; NO_SUCH_ELEMENT.").refused("wires(-1)", NO_SUCH_ELEMENT)
            .refused("wires(4)", NO_SUCH_ELEMENT);
        String size = "Returns the number of comparators; NO_SUCH_ELEMENT.";
        Desk.test(4, size).asks("size(0)", 0).due("add(0, 0, 1)", 1).asks("size(0)", 1);
        Desk.test(4, size).fill(3, 2, 40).asks("size(3)", 40).refused("add(3, 0, 1)", FULL).asks("size(3)", 40);
        Desk.test(4, size).refused("size(-1)", NO_SUCH_ELEMENT).refused("size(4)", NO_SUCH_ELEMENT);
    }

    private static void comparator() {
        String code = "Returns the comparator (i, j) as 10 * i + j; NO_SUCH_ELEMENT.";
        Desk.test(5, code).net(0, 8, 1, 10, 7, 70, 76, 67).asks("comparator(0, 0)", 1).asks("comparator(0, 1)", 10)
            .asks("comparator(0, 2)", 7).asks("comparator(0, 3)", 70).asks("comparator(0, 4)", 76)
            .asks("comparator(0, 5)", 67).refused("comparator(0, 6)", NO_SUCH_ELEMENT)
            .refused("comparator(0, -1)", NO_SUCH_ELEMENT);
        Desk.test(5, code).refused("comparator(0, 0)", NO_SUCH_ELEMENT).refused("comparator(0, -1)", NO_SUCH_ELEMENT);
        Desk.test(5, code).fill(0, 3, 39).given("add(0, 2, 1)").asks("comparator(0, 39)", 21)
            .asks("comparator(0, 38)", 1).refused("comparator(0, 40)", NO_SUCH_ELEMENT);
        Desk.test(5, code).fill(0, 3, 1).refused("comparator(4, 0)", NO_SUCH_ELEMENT)
            .refused("comparator(-1, 0)", NO_SUCH_ELEMENT);
    }

    private static void add() {
        String there = "NO_SUCH_ELEMENT if there is no such network or wire (checked first)";
        Desk.test(6, there).net(1, 3, 20).refused("add(1, 3, 0)", NO_SUCH_ELEMENT)
            .refused("add(1, 0, 3)", NO_SUCH_ELEMENT).refused("add(1, -1, 0)", NO_SUCH_ELEMENT)
            .refused("add(1, 0, -1)", NO_SUCH_ELEMENT);
        Desk.test(6, there).net(1, 3, 20).refused("add(1, 3, 3)", NO_SUCH_ELEMENT)
            .refused("add(1, -1, -1)", NO_SUCH_ELEMENT).refused("add(4, 0, 0)", NO_SUCH_ELEMENT)
            .refused("add(-1, 1, 1)", NO_SUCH_ELEMENT);
        Desk.test(6, there).fill(1, 3, 40).refused("add(1, 3, 0)", NO_SUCH_ELEMENT)
            .refused("add(1, 0, 3)", NO_SUCH_ELEMENT).refused("add(4, 0, 1)", NO_SUCH_ELEMENT)
            .refused("add(1, 3, 3)", NO_SUCH_ELEMENT);
        String same = "BAD_VALUE if both wires are the same (checked second)";
        Desk.test(6, same).net(1, 3, 20).refused("add(1, 0, 0)", BAD_VALUE).refused("add(1, 2, 2)", BAD_VALUE);
        Desk.test(6, same).fill(1, 3, 40).refused("add(1, 0, 0)", BAD_VALUE).refused("add(1, 2, 2)", BAD_VALUE);
        String full = "FULL if the network has 40 comparators.";
        Desk.test(6, full).fill(1, 3, 38).due("add(1, 2, 0)", 39).due("add(1, 1, 2)", 40)
            .refused("add(1, 0, 1)", FULL).asks("comparator(1, 38)", 20).asks("comparator(1, 39)", 12);
        Desk.test(6, full).fill(1, 3, 40).given("remove(1, 0)").due("add(1, 2, 0)", 40).refused("add(1, 2, 0)", FULL);
        Desk.test(6, full).fill(1, 3, 40).due("add(0, 0, 1)", 1);
        Desk.test(6, "Appends a comparator (i, j).").due("add(0, 1, 0)", 1).holds(0, 2, 10).due("add(0, 0, 1)", 2)
            .holds(0, 2, 10, 1);
    }

    private static void insert() {
        String position = "`position`: the position, 0 to the number of comparators";
        Desk.test(7, position).due("insert(0, 0, 1, 0)", 1).holds(0, 2, 10);
        Desk.test(7, position).refused("insert(0, 1, 1, 0)", NO_SUCH_ELEMENT)
            .refused("insert(0, -1, 1, 0)", NO_SUCH_ELEMENT);
        Desk.test(7, position).net(0, 4, 1, 23).due("insert(0, 2, 3, 0)", 3).holds(0, 4, 1, 23, 30);
        Desk.test(7, position).net(0, 4, 1, 23).due("insert(0, 0, 3, 0)", 3).holds(0, 4, 30, 1, 23);
        Desk.test(7, position).net(0, 4, 1, 23).refused("insert(0, 3, 3, 0)", NO_SUCH_ELEMENT)
            .refused("insert(0, -1, 3, 0)", NO_SUCH_ELEMENT).refused("insert(0, " + LOWEST + ", 3, 0)", NO_SUCH_ELEMENT)
            .refused("insert(0, " + HIGHEST + ", 3, 0)", NO_SUCH_ELEMENT);
        Desk.test(7, "The comparators from there on get the next positions.").net(0, 4, 1, 23, 2)
            .due("insert(0, 1, 3, 0)", 4).holds(0, 4, 1, 30, 23, 2);
        String there = "NO_SUCH_ELEMENT if there is no such network, position or wire (checked first)";
        Desk.test(7, there).net(0, 4, 1).refused("insert(0, 0, 4, 0)", NO_SUCH_ELEMENT)
            .refused("insert(0, 0, 0, 4)", NO_SUCH_ELEMENT).refused("insert(0, 0, -1, 0)", NO_SUCH_ELEMENT)
            .refused("insert(0, 0, 0, -1)", NO_SUCH_ELEMENT);
        Desk.test(7, there).net(0, 4, 1).refused("insert(0, 2, 1, 1)", NO_SUCH_ELEMENT)
            .refused("insert(0, -1, 1, 1)", NO_SUCH_ELEMENT).refused("insert(0, 0, 4, 4)", NO_SUCH_ELEMENT)
            .refused("insert(4, 0, 1, 1)", NO_SUCH_ELEMENT).refused("insert(-1, 0, 0, 1)", NO_SUCH_ELEMENT);
        Desk.test(7, there).fill(0, 4, 40).refused("insert(0, 41, 0, 1)", NO_SUCH_ELEMENT)
            .refused("insert(0, -1, 0, 1)", NO_SUCH_ELEMENT).refused("insert(0, 0, 4, 0)", NO_SUCH_ELEMENT)
            .refused("insert(0, 40, 0, 4)", NO_SUCH_ELEMENT).refused("insert(0, 41, 1, 1)", NO_SUCH_ELEMENT);
        String same = "BAD_VALUE if both wires are the same (checked second)";
        Desk.test(7, same).net(0, 4, 1).refused("insert(0, 0, 0, 0)", BAD_VALUE).refused("insert(0, 1, 3, 3)", BAD_VALUE);
        Desk.test(7, same).fill(0, 4, 40).refused("insert(0, 0, 0, 0)", BAD_VALUE)
            .refused("insert(0, 40, 3, 3)", BAD_VALUE);
        String full = "FULL if the network has 40 comparators.";
        Desk.test(7, full).fill(0, 4, 39).due("insert(0, 0, 3, 2)", 40).refused("insert(0, 0, 3, 2)", FULL)
            .refused("insert(0, 40, 3, 2)", FULL).refused("insert(0, 20, 3, 2)", FULL)
            .asks("comparator(0, 0)", 32).asks("comparator(0, 1)", 1).asks("comparator(0, 39)", 1);
        Desk.test(7, full).fill(0, 4, 39).due("insert(0, 39, 3, 2)", 40).asks("comparator(0, 39)", 32)
            .asks("comparator(0, 38)", 1).refused("insert(0, 39, 3, 2)", FULL);
    }

    private static void remove() {
        String removed = "Returns the removed comparator (i, j) as 10 * i + j; NO_SUCH_ELEMENT.";
        Desk.test(8, removed).refused("remove(0, 0)", NO_SUCH_ELEMENT).refused("remove(0, -1)", NO_SUCH_ELEMENT);
        Desk.test(8, removed).net(0, 8, 70).refused("remove(0, 1)", NO_SUCH_ELEMENT)
            .refused("remove(0, -1)", NO_SUCH_ELEMENT).refused("remove(4, 0)", NO_SUCH_ELEMENT)
            .refused("remove(-1, 0)", NO_SUCH_ELEMENT).due("remove(0, 0)", 70).holds(0, 8)
            .refused("remove(0, 0)", NO_SUCH_ELEMENT);
        String behind = "The comparators behind it get the previous positions.";
        Desk.test(8, behind).net(0, 4, 1, 23, 2, 13).due("remove(0, 0)", 1).holds(0, 4, 23, 2, 13);
        Desk.test(8, behind).net(0, 4, 1, 23, 2, 13).due("remove(0, 3)", 13).holds(0, 4, 1, 23, 2);
        Desk.test(8, behind).net(0, 4, 1, 23, 2, 13).due("remove(0, 1)", 23).holds(0, 4, 1, 2, 13);
        Desk.test(8, behind).fill(0, 4, 39).given("add(0, 3, 2)").due("remove(0, 0)", 1)
            .asks("comparator(0, 38)", 32).refused("comparator(0, 39)", NO_SUCH_ELEMENT);
        Desk.test(8, behind).fill(0, 4, 39).given("add(0, 3, 2)").due("remove(0, 39)", 32).asks("comparator(0, 38)", 1)
            .refused("remove(0, 39)", NO_SUCH_ELEMENT);
    }

    private static void layer() {
        String answer = "Returns the layer; NO_SUCH_ELEMENT.";
        Desk.test(9, answer).refused("layer(0, 0)", NO_SUCH_ELEMENT).refused("layer(0, -1)", NO_SUCH_ELEMENT)
            .refused("layer(4, 0)", NO_SUCH_ELEMENT).refused("layer(-1, 0)", NO_SUCH_ELEMENT);
        Desk.test(9, answer).net(0, 4, 1).asks("layer(0, 0)", 0).refused("layer(0, 1)", NO_SUCH_ELEMENT)
            .refused("layer(0, -1)", NO_SUCH_ELEMENT);
        Desk.test(9, answer).fill(0, 2, 40).asks("layer(0, 0)", 0).asks("layer(0, 39)", 39)
            .refused("layer(0, 40)", NO_SUCH_ELEMENT);
        Desk.test(9, answer).net(0, 6, 1, 12, 23, 45, 34, 5).asks("layer(0, 0)", 0).asks("layer(0, 1)", 1)
            .asks("layer(0, 2)", 2).asks("layer(0, 3)", 0).asks("layer(0, 4)", 3).asks("layer(0, 5)", 1);
    }

    private static void depth() {
        String answer = "Returns the number of different layers of its comparators; NO_SUCH_ELEMENT.";
        Desk.test(10, answer).asks("depth(0)", 0).refused("depth(4)", NO_SUCH_ELEMENT)
            .refused("depth(-1)", NO_SUCH_ELEMENT);
        Desk.test(10, answer).net(0, 8, 70).asks("depth(0)", 1);
        Desk.test(10, answer).net(0, 8, 1, 23, 45, 67).asks("depth(0)", 1);
        Desk.test(10, answer).net(0, 8, 1, 1, 67).asks("depth(0)", 2);
        Desk.test(10, answer).fill(0, 2, 40).asks("depth(0)", 40).due("remove(0, 39)", 1).asks("depth(0)", 39);
    }

    private static void append() {
        String code = "`character`: the character code, 33 to 126";
        Desk.test(11, code).due("append(33)", 1).due("append(126)", 2);
        Desk.test(11, code).given("append(48)").refused("append(32)", BAD_VALUE).refused("append(127)", BAD_VALUE)
            .refused("append(0)", BAD_VALUE).refused("append(-1)", BAD_VALUE).refused("append(" + LOWEST + ")", BAD_VALUE)
            .refused("append(" + HIGHEST + ")", BAD_VALUE).refused("append(304)", BAD_VALUE)
            .refused("append(65584)", BAD_VALUE).due("append(49)", 2);
        String first = "BAD_VALUE if the code is out of range (checked first)";
        Desk.test(11, first).given("60 x append(48)").refused("append(32)", BAD_VALUE).refused("append(127)", BAD_VALUE);
        String full = "FULL if the text has 60 characters.";
        Desk.test(11, full).given("58 x append(48)").due("append(49)", 59).due("append(50)", 60)
            .refused("append(51)", FULL).refused("append(33)", FULL).refused("append(126)", FULL).due("clearText()", 60);
        Desk.test(11, "Returns the new length of the text").due("append(48)", 1).due("append(48)", 2);
    }

    private static void clearText() {
        String answer = "Returns the previous length of the text.";
        Desk.test(12, answer).asks("clearText()", 0).asks("clearText()", 0);
        Desk.test(12, answer).given("append(48)").due("clearText()", 1).due("clearText()", 0).due("append(48)", 1);
        Desk.test(12, answer).given("60 x append(48)").due("clearText()", 60).due("clearText()", 0);
        Desk.test(12, "Makes the text buffer empty.").given("write x", "clearText()", "write 0:1").due("parse(0)", 1);
        Desk.test(12, "Makes the text buffer empty.").given("60 x append(48)", "clearText()", "60 x append(48)")
            .refused("append(48)", FULL);
    }

    private static void parse() {
        String replaces = "Replaces the comparators of a network by those of the text in the text buffer.";
        Desk.test(13, replaces).given("write 1:0").due("parse(0)", 1).holds(0, 2, 10);
        Desk.test(13, replaces).fill(0, 2, 40).given("write 1:0").due("parse(0)", 1).holds(0, 2, 10)
            .due("undo()", 11).asks("size(0)", 40);
        String fifteen = "write 0:1;0:1;0:1;0:1;0:1;0:1;0:1;0:1;0:1;0:1;0:1;0:1;0:1;0:1;1:0";
        Desk.test(13, replaces).given(fifteen).due("parse(0)", 15).asks("comparator(0, 14)", 10)
            .refused("comparator(0, 15)", NO_SUCH_ELEMENT);
        Desk.test(13, "The number of wires stays.").net(0, 8, 76).given("write 0:1").due("parse(0)", 1).holds(0, 8, 1);
        String empty = "The text buffer is empty afterwards, also after an error.";
        Desk.test(13, empty).given("write 0:1").due("parse(0)", 1).due("clearText()", 0).refused("parse(0)", -100);
        Desk.test(13, empty).given("write 0:2").refusedTextGone("parse(0)", -102).due("append(48)", 1);
        Desk.test(13, empty).given("write 0:1").refusedTextGone("parse(4)", NO_SUCH_ELEMENT).due("append(48)", 1);
        Desk.test(13, empty).given("write 0:1").refusedTextGone("parse(-1)", NO_SUCH_ELEMENT).due("append(48)", 1);
        Desk.test(13, empty).given("60 x append(48)").refusedTextGone("parse(0)", -101).due("append(48)", 1);
        Desk.test(13, empty).given(fifteen, "append(59)").refusedTextGone("parse(0)", -160).due("clearText()", 0);
        String first = "NO_SUCH_ELEMENT if there is no such network (checked first)";
        Desk.test(13, first).given("write x").refusedTextGone("parse(4)", NO_SUCH_ELEMENT);
        Desk.test(13, first).refused("parse(-1)", NO_SUCH_ELEMENT).refused("parse(4)", NO_SUCH_ELEMENT);
        String wrong = "-100 minus the error position if the text does not follow the grammar, "
            + "in which case the network stays as it was.";
        Desk.test(13, wrong).net(0, 4, 32, 1).refused("parse(0)", -100).holds(0, 4, 32, 1);
        Desk.test(13, wrong).net(0, 4, 32, 1).given("write 0:1,2:3;0:3;").refusedTextGone("parse(0)", -112)
            .holds(0, 4, 32, 1).due("undo()", 2);
        Desk.test(13, wrong).fill(0, 2, 40).given("write 0:1;1").refusedTextGone("parse(0)", -105)
            .asks("size(0)", 40).due("undo()", 11);
    }

    private static void setKey() {
        String key = "`key`: the number of the key, 0 to 7";
        Desk.test(14, key).due("setKey(0, 5)", 0).due("setKey(0, 6)", 5).due("setKey(7, 8)", 0).due("setKey(7, 9)", 8);
        Desk.test(14, key).refused("setKey(-1, 5)", NO_SUCH_ELEMENT).refused("setKey(8, 5)", NO_SUCH_ELEMENT);
        String value = "`value`: the value, 0 to 99";
        Desk.test(14, value).due("setKey(3, 99)", 0).due("setKey(3, 0)", 99).due("setKey(3, 1)", 0);
        Desk.test(14, value).given("setKey(3, 44)").refused("setKey(3, -1)", BAD_VALUE).refused("setKey(3, 100)", BAD_VALUE)
            .refused("setKey(3, " + LOWEST + ")", BAD_VALUE).refused("setKey(3, " + HIGHEST + ")", BAD_VALUE)
            .due("setKey(3, 44)", 44);
        String first = "NO_SUCH_ELEMENT if there is no such key (checked first); BAD_VALUE.";
        Desk.test(14, first).refused("setKey(8, 100)", NO_SUCH_ELEMENT).refused("setKey(-1, -1)", NO_SUCH_ELEMENT)
            .refused("setKey(8, -1)", NO_SUCH_ELEMENT).refused("setKey(-1, 100)", NO_SUCH_ELEMENT);
        Desk.test(14, "Returns the previous value").given("setKey(0, 9)", "run(0)", "setKey(0, 1)").asks("result(0)", 9);
    }

    private static Desk withKeys(Desk desk, int... values) {
        for (int key = 0; key < values.length; key++) {
            desk.given("setKey(" + key + ", " + values[key] + ")");
        }
        return desk;
    }

    private static void run() {
        String keys = "Runs a network with the keys 0 to n - 1 on its n wires.";
        for (int n = 2; n <= 8; n++) {
            Desk desk = withKeys(Desk.test(15, keys), 80, 70, 60, 50, 40, 30, 20, 10).net(2, n, n - 1).due("run(2)", 1)
                .asks("result(0)", 80 - 10 * (n - 1)).asks("origin(0)", n - 1)
                .asks("result(" + (n - 1) + ")", 80).asks("origin(" + (n - 1) + ")", 0);
            desk.refused("result(" + n + ")", NO_SUCH_ELEMENT).refused("origin(" + n + ")", NO_SUCH_ELEMENT);
        }
        String number = "Returns the number of comparators that exchanged values; NO_SUCH_ELEMENT.";
        Desk.test(15, number).due("run(0)", 0);
        Desk.test(15, number).fill(0, 2, 40).due("run(0)", 0);
        Desk zigzag = withKeys(Desk.test(15, number), 9, 8).given("reset(0, 2)");
        for (int k = 0; k < 20; k++) {
            zigzag.given("add(0, 0, 1)", "add(0, 1, 0)");
        }
        zigzag.due("run(0)", 40).asks("result(0)", 9).asks("origin(0)", 0);
        Desk.test(15, number).refused("run(4)", NO_SUCH_ELEMENT).refused("run(-1)", NO_SUCH_ELEMENT);
        String stays = "What the run made stays until the next successful call of this method.";
        withKeys(Desk.test(15, stays), 9, 8, 7).net(0, 3, 1).given("run(0)").refused("run(4)", NO_SUCH_ELEMENT)
            .asks("result(0)", 8).asks("result(2)", 7).asks("origin(0)", 1);
        withKeys(Desk.test(15, stays), 9, 8, 7).net(0, 3, 1).given("run(0)", "reset(0, 2)", "setKey(0, 1)", "undo()")
            .asks("result(0)", 8).asks("result(1)", 9).asks("result(2)", 7).refused("result(3)", NO_SUCH_ELEMENT);
        withKeys(Desk.test(15, stays), 9, 8, 7).net(0, 3, 1).given("run(0)").due("run(1)", 0).asks("result(0)", 9)
            .refused("result(2)", NO_SUCH_ELEMENT);
    }

    private static void resultAndOrigin() {
        for (int promise = 16; promise <= 17; promise++) {
            String name = promise == 16 ? "result(" : "origin(";
            String state = "STATE if there was no run (checked first)";
            Desk.test(promise, state).refused(name + "0)", STATE).refused(name + "7)", STATE);
            Desk.test(promise, state).refused(name + "-1)", STATE).refused(name + "8)", STATE)
                .refused(name + LOWEST + ")", STATE).refused(name + HIGHEST + ")", STATE);
            Desk.test(promise, state).refused("run(4)", NO_SUCH_ELEMENT).refused(name + "0)", STATE);
            String then = "NO_SUCH_ELEMENT if the network of that run had no such wire then.";
            for (int n = 2; n <= 8; n++) {
                Desk.test(promise, then).given("reset(0, " + n + ")", "setKey(" + (n - 1) + ", 33)", "run(0)")
                    .asks(name + "0)", 0).asks(name + (n - 1) + ")", promise == 16 ? 33 : n - 1)
                    .refused(name + n + ")", NO_SUCH_ELEMENT).refused(name + "-1)", NO_SUCH_ELEMENT)
                    .refused(name + LOWEST + ")", NO_SUCH_ELEMENT).refused(name + HIGHEST + ")", NO_SUCH_ELEMENT);
            }
            Desk.test(promise, then).given("reset(0, 3)", "setKey(2, 2)", "run(0)", "reset(0, 8)").asks(name + "2)", 2)
                .refused(name + "3)", NO_SUCH_ELEMENT);
            Desk.test(promise, then).given("reset(0, 3)", "setKey(2, 2)", "run(0)", "reset(0, 2)").asks(name + "2)", 2)
                .refused(name + "3)", NO_SUCH_ELEMENT);
            Desk.test(promise, then).given("reset(0, 8)", "setKey(7, 7)", "run(0)", "undo()").asks(name + "7)", 7)
                .refused(name + "8)", NO_SUCH_ELEMENT);
        }
    }

    private static void isStable() {
        String state = "Returns 1 if they do, 0 otherwise; STATE if there was no run.";
        Desk.test(18, state).refused("isStable()", STATE);
        Desk.test(18, state).refused("run(4)", NO_SUCH_ELEMENT).refused("isStable()", STATE);
        Desk.test(18, state).given("run(0)").asks("isStable()", 1);
        String order = "Returns whether equal values stand, at the end of the latest run, in the order of the numbers of their keys.";
        withKeys(Desk.test(18, order), 5, 5, 4).net(0, 3, 2).given("run(0)").asks("isStable()", 0);
        withKeys(Desk.test(18, order), 5, 6, 4).net(0, 3, 2).given("run(0)").asks("isStable()", 1);
        withKeys(Desk.test(18, order), 5, 5, 4).net(0, 3).given("run(0)").asks("isStable()", 1);
        withKeys(Desk.test(18, order), 1, 2, 3, 4, 5, 6, 7, 8).net(0, 8, 70).given("run(0)").asks("isStable()", 1);
        withKeys(Desk.test(18, order), 4, 3, 3, 3, 3, 3, 3, 4).net(0, 8, 1).given("run(0)").asks("isStable()", 1);
        withKeys(Desk.test(18, order), 4, 3, 3, 3, 3, 3, 3, 3).net(0, 8, 7).given("run(0)").asks("isStable()", 0);
        withKeys(Desk.test(18, order), 4, 4, 4, 4, 4, 4, 4, 3).net(0, 8, 7).given("run(0)").asks("isStable()", 0);
        withKeys(Desk.test(18, order), 9, 1, 2, 3, 4, 5, 9, 6).net(0, 8, 7).given("run(0)").asks("isStable()", 0);
        withKeys(Desk.test(18, order), 5, 5, 4).net(0, 3, 2).given("run(0)", "reset(0, 2)", "setKey(0, 1)")
            .asks("isStable()", 0).due("run(0)", 0).asks("isStable()", 1);
    }
}
