/**
 * How many there can be (promises 1 to 5, 19 and 20): the last one that is taken and the first one that is refused, the
 * object still empty, full, and cleared. Above each test stand the document's words for it.
 */
public final class LimitTest {
    public static void main(String[] args) {
        emptyAtFirst();
        eightInputs();
        eightInputsAmongAnds();
        twentyFourAnds();
        twentyFourAndsAmongInputs();
        sixOutputs();
        twelveCells();
        oneKindFullOthersNot();
        countsFromEmptyToFull();
        clearedWhenEmpty();
        clearedWhenFull();
        clearedTimesAndDelays();
        upToTheLastCall();
        Checks.end();
    }

    /** Promise 1: "Nothing at all." */
    private static void emptyAtFirst() {
        nothingAtAll("new", new CellMapping());
        CellMapping one = new CellMapping();
        one.input();
        one.cell(1, 1, 1);
        nothingAtAll("new though another object has something", new CellMapping());
    }

    private static void nothingAtAll(String when, CellMapping x) {
        for (int what = 0; what < 4; what++) {
            Checks.due(when + ": count(" + what + ")", x.count(what), 0);
        }
        Checks.due(when + ": run()", x.run(), 0);
        Checks.due(when + ": wanted(0)", x.wanted(0), -1);
        Checks.due(when + ": area()", x.area(), 0);
        Checks.due(when + ": worst()", x.worst(), 0);
        Checks.noIndex(when + ": there is no literal 0 at the left", () -> x.and(0, 0));
        Checks.noIndex(when + ": no literal 0 to put out", () -> x.output(0));
        Checks.noIndex(when + ": no cell 0", () -> x.delay(0, 0, 0));
        Checks.noIndex(when + ": no input 0", () -> x.arrives(0, 0));
        Checks.noIndex(when + ": no node 0", () -> x.cuts(0));
        Checks.noIndex(when + ": no node 0 for a cut", () -> x.cut(0, 0));
        Checks.noIndex(when + ": no node 0 for a function", () -> x.function(0, 0));
        Checks.noIndex(when + ": no arrival", () -> x.arrival(0));
        Checks.noIndex(when + ": no gate", () -> x.gate(0, 0));
        Checks.noIndex(when + ": no value", () -> x.value(0, 0));
        Checks.noIndex(when + ": nothing mapped", () -> x.mapped(0, 0));
    }

    /** "INPUTS (8 at most)"; "NODES have numbers 0, 1, .. as they come"; promise 2: "A new input: its literal". */
    private static void eightInputs() {
        CellMapping x = new CellMapping();
        for (int k = 0; k < 8; k++) {
            Checks.due("input " + k, x.input(), 2 * k);
        }
        Checks.full("a ninth input", () -> x.input());
        Checks.full("and once more", () -> x.input());
        Checks.due("inputs", x.count(1), 8);
        Checks.due("nodes", x.count(0), 8);
    }

    /** It is inputs that are counted, not nodes: ANDs before the last input do not make it a ninth. */
    private static void eightInputsAmongAnds() {
        CellMapping x = new CellMapping();
        for (int k = 0; k < 8; k++) {
            Checks.due("input " + k + " among ands", x.input(), 8 * k);
            Checks.due("an input before all ands are there", x.count(1), k + 1);
            for (int i = 0; i < 3; i++) {
                Checks.due("and " + i + " behind it", x.and(8 * k, 8 * k + 1), 8 * k + 2 * i + 2);
            }
        }
        Checks.full("a ninth input among ands", () -> x.input());
        Checks.full("a twenty-fifth and", () -> x.and(0, 0));
        Checks.due("nodes", x.count(0), 32);
    }

    /** "ANDS (24 at most)"; promise 3: "A new AND: its literal". */
    private static void twentyFourAnds() {
        CellMapping x = new CellMapping();
        x.input();
        for (int k = 0; k < 24; k++) {
            Checks.due("and " + k, x.and(2 * k, 2 * k + 1), 2 * k + 2);
        }
        Checks.full("a twenty-fifth and", () -> x.and(0, 0));
        Checks.full("and once more, of the last literals", () -> x.and(49, 48));
        Checks.due("nodes", x.count(0), 25);
        Checks.due("inputs", x.count(1), 1);
    }

    /** It is ANDs that are counted, not nodes: eight inputs before them leave room for 24. */
    private static void twentyFourAndsAmongInputs() {
        CellMapping x = new CellMapping();
        for (int k = 0; k < 8; k++) {
            x.input();
        }
        for (int k = 0; k < 24; k++) {
            Checks.due("and " + k + " behind all inputs", x.and(2 * k, 2 * k + 15), 16 + 2 * k);
        }
        Checks.full("a twenty-fifth and behind all inputs", () -> x.and(0, 0));
        Checks.due("nodes", x.count(0), 32);
        Checks.due("the last one's value", x.value(63, 0), 1);
    }

    /** "OUTPUTS 0, 1, .. (6 at most) are literals"; promise 4: "A new output: its number". */
    private static void sixOutputs() {
        CellMapping x = new CellMapping();
        x.input();
        x.cell(1, 1, 1);
        for (int k = 0; k < 6; k++) {
            Checks.due("output " + k + ", the same literal again", x.output(1), k);
            Checks.due("outputs", x.count(2), k + 1);
        }
        Checks.full("a seventh output", () -> x.output(0));
        Checks.full("a seventh output of a literal that is one", () -> x.output(1));
        Checks.due("outputs stay", x.count(2), 6);
        Checks.due("what they want stays", x.run(), 1);
    }

    /** "CELLS 0, 1, .. (12 at most)"; promise 5: "A new cell: its number". */
    private static void twelveCells() {
        CellMapping x = new CellMapping();
        x.input();
        x.output(1);
        for (int k = 0; k < 12; k++) {
            Checks.due("cell " + k + ", the same again but for its area", x.cell(1, 1, 100 + k), k);
            Checks.due("cells", x.count(3), k + 1);
            x.delay(k, 0, 1000);
        }
        Checks.full("a thirteenth cell", () -> x.cell(1, 1, 1));
        Checks.full("a thirteenth cell of three pins", () -> x.cell(3, 255, 1000));
        for (int k = 0; k < 12; k++) {
            x.delay(k, 0, 999 - k);
            Checks.due("cell " + k + " is taken as the earliest", x.gate(1, 0), k);
            Checks.due("its area", x.area(), 100 + k);
            Checks.due("its arrival", x.arrival(1), 999 - k);
        }
        Checks.due("cells stay", x.count(3), 12);
    }

    /** "there are as many as there can be": of this kind; the other kinds still have room. */
    private static void oneKindFullOthersNot() {
        CellMapping inputsFull = new Shape(8, 1, 1, 1).make();
        Checks.due("an and", inputsFull.and(0, 2), 18);
        Checks.due("an output", inputsFull.output(0), 1);
        Checks.due("a cell", inputsFull.cell(1, 0, 1), 1);
        CellMapping andsFull = new Shape(1, 24, 1, 1).make();
        Checks.due("an input", andsFull.input(), 50);
        Checks.due("an output of it", andsFull.output(50), 1);
        Checks.due("a cell", andsFull.cell(1, 0, 1), 1);
        CellMapping outputsFull = new Shape(1, 1, 6, 1).make();
        Checks.due("an input", outputsFull.input(), 4);
        Checks.due("an and", outputsFull.and(0, 4), 6);
        Checks.due("a cell", outputsFull.cell(1, 0, 1), 1);
        CellMapping cellsFull = new Shape(1, 1, 1, 12).make();
        Checks.due("an input", cellsFull.input(), 4);
        Checks.due("an and", cellsFull.and(0, 4), 6);
        Checks.due("an output", cellsFull.output(6), 1);
    }

    /** Promise 19: "How many: what = 0 nodes, 1 inputs, 2 outputs, 3 cells", from none to all. */
    private static void countsFromEmptyToFull() {
        dueCounts("empty", new CellMapping(), 0, 0, 0, 0);
        dueCounts("one input", new Shape(1, 0, 0, 0).make(), 1, 1, 0, 0);
        dueCounts("one and", new Shape(1, 1, 0, 0).make(), 2, 1, 0, 0);
        dueCounts("one output", new Shape(1, 0, 1, 0).make(), 1, 1, 1, 0);
        dueCounts("one cell", new Shape(0, 0, 0, 1).make(), 0, 0, 0, 1);
        dueCounts("full", new Shape(8, 24, 6, 12).make(), 32, 8, 6, 12);
    }

    private static void dueCounts(String when, CellMapping x, int... counts) {
        for (int what = 0; what < 4; what++) {
            Checks.due(when + ": count(" + what + ")", x.count(what), counts[what]);
        }
        Checks.noIndex(when + ": count(-1)", () -> x.count(-1));
        Checks.noIndex(when + ": count(4)", () -> x.count(4));
    }

    /** Promise 20: "Nothing at all", also where there was nothing, and twice. */
    private static void clearedWhenEmpty() {
        CellMapping x = new CellMapping();
        x.clear();
        nothingAtAll("cleared when empty", x);
        x.clear();
        x.clear();
        nothingAtAll("cleared again", x);
        Checks.due("the first input", x.input(), 0);
    }

    /** Promise 20: a full object is empty again, and can be filled again as far and no further. */
    private static void clearedWhenFull() {
        CellMapping x = new Shape(8, 24, 6, 12).make();
        x.clear();
        nothingAtAll("cleared when full", x);
        new Shape(8, 24, 6, 12).fill(x);
        dueCounts("filled again", x, 32, 8, 6, 12);
        Checks.full("a ninth input after clear", () -> x.input());
        Checks.full("a twenty-fifth and after clear", () -> x.and(0, 0));
        Checks.full("a seventh output after clear", () -> x.output(0));
        Checks.full("a thirteenth cell after clear", () -> x.cell(1, 1, 1));
        CellMapping fresh = new Shape(8, 24, 6, 12).make();
        Checks.due("run as on a new object", x.run(), fresh.run());
        Checks.due("area as on a new object", x.area(), fresh.area());
        Checks.due("worst as on a new object", x.worst(), fresh.worst());
        for (int node = 0; node < 32; node++) {
            Checks.due("cuts of " + node + " as on a new object", x.cuts(node), fresh.cuts(node));
        }
        for (int literal = 0; literal < 64; literal++) {
            Checks.due("arrival of " + literal + " as on a new object", x.arrival(literal), fresh.arrival(literal));
        }
    }

    /** Promise 20, with "a DELAY (0 at first)" and "ARRIVES when it is told (0 at first)": also after clear(). */
    private static void clearedTimesAndDelays() {
        CellMapping x = new CellMapping();
        x.input();
        x.input();
        x.arrives(0, 1000);
        x.arrives(1, 1000);
        x.cell(3, 1, 1);
        for (int pin = 0; pin < 3; pin++) {
            x.delay(0, pin, 1000);
        }
        x.clear();
        x.cell(3, 1, 1);
        x.input();
        x.input();
        for (int k = 0; k < 2; k++) {
            Checks.due("the time of input " + k + " is 0", x.arrives(k, 0), false);
            Checks.due("the arrival of input " + k, x.arrival(2 * k), 0);
        }
        for (int pin = 0; pin < 3; pin++) {
            Checks.due("the delay of pin " + pin + " is 0", x.delay(0, pin, 0), false);
        }
    }

    /** "An object is used for at most 512 calls": the 512th is still one of them. */
    private static void upToTheLastCall() {
        CellMapping x = new CellMapping();
        int calls = 0;
        for (int round = 0; round < 36; round++) {
            x.input();
            x.input();
            x.and(0, 3);
            x.cell(1, 1, 5);
            x.cell(2, 8, 7);
            x.output(5);
            x.delay(0, 0, round);
            x.arrives(1, 1000);
            Checks.due("worst in round " + round, x.worst(), 1000 + 2 * round);
            Checks.due("area in round " + round, x.area(), 17);
            Checks.due("wanted in round " + round, x.wanted(2), 5);
            Checks.noIndex("literal 6 in round " + round, () -> x.arrival(6));
            Checks.due("cut in round " + round, x.cut(2, 0), 3);
            x.clear();
            calls += 14;
        }
        for (; calls < 511; calls++) {
            Checks.due("input", x.input(), 2 * (calls - 504));
        }
        Checks.due("the last call", x.count(0), 7);
    }
}
