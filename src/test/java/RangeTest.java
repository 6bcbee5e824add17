/**
 * Each number that a call takes (promises 3 to 12, 14, 17 to 19): the last value that is taken and the first one that is
 * refused, on both sides. Above each test stand the document's words for it.
 */
public final class RangeTest {
    private static final int LEAST = Integer.MIN_VALUE;
    private static final int GREATEST = Integer.MAX_VALUE;

    public static void main(String[] args) {
        andLiterals();
        outputLiterals();
        pinsOfCells();
        truths();
        areas();
        cellsOfDelays();
        pinsOfDelays();
        delays();
        inputsThatArrive();
        times();
        nodesOfCuts();
        cutNumbers();
        literalsAsked();
        whatOfGates();
        wantedNumbers();
        whatOfCounts();
        assignments();
        Checks.end();
    }

    private static CellMapping twoInputs() {
        CellMapping x = new CellMapping();
        x.input();
        x.input();
        return x;
    }

    /** "two LITERALS of nodes before them"; promise 3: IndexOutOfBoundsException when there is no such literal. */
    private static void andLiterals() {
        CellMapping x = twoInputs();
        Checks.noIndex("left -1", () -> x.and(-1, 0));
        Checks.noIndex("right -1", () -> x.and(0, -1));
        Checks.noIndex("left is the new one's own literal", () -> x.and(4, 0));
        Checks.noIndex("right is the new one's own literal", () -> x.and(0, 4));
        Checks.noIndex("left is the new one turned", () -> x.and(5, 0));
        Checks.noIndex("right is the new one turned", () -> x.and(0, 5));
        Checks.noIndex("both are none", () -> x.and(-1, 4));
        Checks.noIndex("left least", () -> x.and(LEAST, 0));
        Checks.noIndex("right least", () -> x.and(0, LEAST));
        Checks.noIndex("left greatest", () -> x.and(GREATEST, 0));
        Checks.noIndex("right greatest", () -> x.and(0, GREATEST));
        Checks.due("nothing came", x.count(0), 2);
        Checks.due("least literals", x.and(0, 0), 4);
        Checks.due("least and greatest literal", x.and(0, 5), 6);
        Checks.due("greatest and least literal", x.and(7, 0), 8);
        Checks.due("greatest literals", x.and(9, 9), 10);
        Checks.noIndex("the next one's own literal", () -> x.and(12, 11));
        Checks.due("least literals count", x.value(4, 1), 1);
        Checks.due("0 and not 0", x.value(6, 1), 0);
        Checks.due("not that, and 0", x.value(8, 1), 1);
        Checks.due("not that", x.value(10, 1), 0);
    }

    /** Promise 4: IndexOutOfBoundsException when there is no such literal. */
    private static void outputLiterals() {
        CellMapping x = twoInputs();
        Checks.noIndex("output -1", () -> x.output(-1));
        Checks.noIndex("output 4", () -> x.output(4));
        Checks.noIndex("output least", () -> x.output(LEAST));
        Checks.noIndex("output greatest", () -> x.output(GREATEST));
        Checks.due("none came", x.count(2), 0);
        Checks.due("least literal", x.output(0), 0);
        Checks.due("greatest literal", x.output(3), 1);
        x.and(0, 2);
        Checks.noIndex("output 6", () -> x.output(6));
        Checks.due("greatest literal now", x.output(5), 2);
    }

    /** "one to three PINS"; promise 5: "pins are not 1 .. 3". */
    private static void pinsOfCells() {
        CellMapping x = new CellMapping();
        Checks.outOfRange("0 pins", () -> x.cell(0, 0, 1));
        Checks.outOfRange("4 pins", () -> x.cell(4, 0, 1));
        Checks.outOfRange("-1 pins", () -> x.cell(-1, 0, 1));
        Checks.outOfRange("least pins", () -> x.cell(LEAST, 0, 1));
        Checks.outOfRange("greatest pins", () -> x.cell(GREATEST, 0, 1));
        // In shifts these many are as 1, 2 and 3.
        Checks.outOfRange("33 pins", () -> x.cell(33, 1, 1));
        Checks.outOfRange("34 pins", () -> x.cell(34, 1, 1));
        Checks.outOfRange("-31 pins", () -> x.cell(-31, 1, 1));
        Checks.due("1 pin", x.cell(1, 1, 1), 0);
        Checks.due("2 pins", x.cell(2, 1, 1), 1);
        Checks.due("3 pins", x.cell(3, 1, 1), 2);
    }

    /** Promise 5: "truth not 0 .. what so many pins have": 2, 4 or 8 bits. */
    private static void truths() {
        int[] greatest = {0, 3, 15, 255};
        for (int p = 1; p <= 3; p++) {
            int pins = p;
            CellMapping x = new CellMapping();
            Checks.outOfRange(pins + " pins: truth -1", () -> x.cell(pins, -1, 1));
            Checks.outOfRange(pins + " pins: truth too great", () -> x.cell(pins, greatest[pins] + 1, 1));
            Checks.outOfRange(pins + " pins: least truth", () -> x.cell(pins, LEAST, 1));
            Checks.outOfRange(pins + " pins: greatest truth", () -> x.cell(pins, GREATEST, 1));
            Checks.due(pins + " pins: none came", x.count(3), 0);
            Checks.due(pins + " pins: truth 0", x.cell(pins, 0, 1), 0);
            Checks.due(pins + " pins: all ones", x.cell(pins, greatest[pins], 1), 1);
        }
        CellMapping x = new CellMapping();
        Checks.outOfRange("what two pins have is too much for one", () -> x.cell(1, 15, 1));
        Checks.outOfRange("what three pins have is too much for two", () -> x.cell(2, 255, 1));
    }

    /** Promise 5: "area not 1 .. 1000". */
    private static void areas() {
        CellMapping x = twoInputs();
        Checks.outOfRange("area 0", () -> x.cell(1, 1, 0));
        Checks.outOfRange("area 1001", () -> x.cell(1, 1, 1001));
        Checks.outOfRange("area -1", () -> x.cell(1, 1, -1));
        Checks.outOfRange("least area", () -> x.cell(1, 1, LEAST));
        Checks.outOfRange("greatest area", () -> x.cell(1, 1, GREATEST));
        x.output(1);
        Checks.due("area 1", x.cell(1, 1, 1), 0);
        Checks.due("it counts", x.area(), 1);
        x.delay(0, 0, 1);
        Checks.due("area 1000", x.cell(1, 1, 1000), 1);
        Checks.due("it counts too", x.area(), 1000);
    }

    /** Promise 6: IndexOutOfBoundsException when there is no such cell. */
    private static void cellsOfDelays() {
        CellMapping x = new CellMapping();
        Checks.noIndex("there is no cell", () -> x.delay(0, 0, 1));
        x.cell(1, 1, 1);
        x.cell(1, 1, 1);
        Checks.noIndex("cell -1", () -> x.delay(-1, 0, 1));
        Checks.noIndex("cell 2", () -> x.delay(2, 0, 1));
        Checks.noIndex("least cell", () -> x.delay(LEAST, 0, 1));
        Checks.noIndex("greatest cell", () -> x.delay(GREATEST, 0, 1));
        Checks.due("cell 0", x.delay(0, 0, 1), true);
        Checks.due("cell 1", x.delay(1, 0, 1), true);
        CellMapping full = new Shape(0, 0, 0, 12).make();
        Checks.due("cell 11 of twelve", full.delay(11, 1, 1000), true);
        Checks.noIndex("cell 12 of twelve", () -> full.delay(12, 0, 1));
    }

    /** Promise 6: IndexOutOfBoundsException when the cell has no such pin, though others have it. */
    private static void pinsOfDelays() {
        CellMapping x = new CellMapping();
        for (int k = 0; k < 3; k++) {
            x.cell(k + 1, 1, 1);
        }
        for (int k = 0; k < 3; k++) {
            int cell = k;
            Checks.noIndex("pin -1 of cell " + k, () -> x.delay(cell, -1, 1));
            Checks.noIndex("pin too great of cell " + k, () -> x.delay(cell, cell + 1, 1));
            Checks.noIndex("least pin of cell " + k, () -> x.delay(cell, LEAST, 1));
            Checks.noIndex("greatest pin of cell " + k, () -> x.delay(cell, GREATEST, 1));
        }
        for (int k = 0; k < 3; k++) {
            for (int pin = 0; pin <= k; pin++) {
                Checks.due("pin " + pin + " of cell " + k + " had 0", x.delay(k, pin, 0), false);
                Checks.due("pin " + pin + " of cell " + k, x.delay(k, pin, 1), true);
            }
        }
    }

    /** "for each pin a DELAY (0 at first)"; promise 6: "whether it is another one than before"; "it is not 0 .. 1000". */
    private static void delays() {
        CellMapping x = twoInputs();
        x.cell(1, 1, 1);
        Checks.due("0 at first", x.delay(0, 0, 0), false);
        Checks.outOfRange("-1", () -> x.delay(0, 0, -1));
        Checks.outOfRange("1001", () -> x.delay(0, 0, 1001));
        Checks.outOfRange("least", () -> x.delay(0, 0, LEAST));
        Checks.outOfRange("greatest", () -> x.delay(0, 0, GREATEST));
        Checks.due("still 0", x.arrival(1), 0);
        Checks.due("1000 is another one", x.delay(0, 0, 1000), true);
        Checks.due("it counts", x.arrival(1), 1000);
        Checks.due("1000 again is not", x.delay(0, 0, 1000), false);
        Checks.due("it still counts", x.arrival(1), 1000);
        Checks.outOfRange("-1 after 1000", () -> x.delay(0, 0, -1));
        Checks.outOfRange("1001 after 1000", () -> x.delay(0, 0, 1001));
        Checks.due("still 1000", x.arrival(1), 1000);
        Checks.due("999 is another one", x.delay(0, 0, 999), true);
        Checks.due("0 is another one", x.delay(0, 0, 0), true);
        Checks.due("it is 0", x.arrival(1), 0);
        Checks.due("0 again is not", x.delay(0, 0, 0), false);
    }

    /** Promise 7: "input k (by inputs)"; IndexOutOfBoundsException when there is no such input. */
    private static void inputsThatArrive() {
        CellMapping x = new CellMapping();
        Checks.noIndex("there is no input", () -> x.arrives(0, 1));
        x.input();
        x.and(0, 0);
        x.and(0, 0);
        x.input();
        Checks.noIndex("input -1", () -> x.arrives(-1, 1));
        Checks.noIndex("input 2, though there is such a node", () -> x.arrives(2, 1));
        Checks.noIndex("input 3, though that node is an input", () -> x.arrives(3, 1));
        Checks.noIndex("least input", () -> x.arrives(LEAST, 1));
        Checks.noIndex("greatest input", () -> x.arrives(GREATEST, 1));
        Checks.due("input 0", x.arrives(0, 5), true);
        Checks.due("input 1", x.arrives(1, 6), true);
        Checks.due("input 0 is node 0", x.arrival(0), 5);
        Checks.due("input 1 is node 3", x.arrival(6), 6);
        CellMapping full = new Shape(8, 2, 0, 0).make();
        Checks.due("input 7 of eight", full.arrives(7, 1000), true);
        Checks.due("it is the last node", full.arrival(18), 1000);
        Checks.noIndex("input 8 of eight", () -> full.arrives(8, 1));
    }

    /** "ARRIVES when it is told (0 at first)"; promise 7: "whether it is another time than before"; "not 0 .. 1000". */
    private static void times() {
        CellMapping x = twoInputs();
        Checks.due("0 at first", x.arrival(2), 0);
        Checks.due("0 is not another time", x.arrives(1, 0), false);
        Checks.outOfRange("-1", () -> x.arrives(1, -1));
        Checks.outOfRange("1001", () -> x.arrives(1, 1001));
        Checks.outOfRange("least", () -> x.arrives(1, LEAST));
        Checks.outOfRange("greatest", () -> x.arrives(1, GREATEST));
        Checks.due("still 0", x.arrival(2), 0);
        Checks.due("1000 is another time", x.arrives(1, 1000), true);
        Checks.due("it counts", x.arrival(2), 1000);
        Checks.due("1000 again is not", x.arrives(1, 1000), false);
        Checks.outOfRange("-1 after 1000", () -> x.arrives(1, -1));
        Checks.outOfRange("1001 after 1000", () -> x.arrives(1, 1001));
        Checks.due("still 1000", x.arrival(2), 1000);
        Checks.due("999 is another time", x.arrives(1, 999), true);
        Checks.due("0 is another time", x.arrives(1, 0), true);
        Checks.due("it is 0", x.arrival(2), 0);
        Checks.due("the other input has had 0 all the time", x.arrives(0, 0), false);
    }

    /** Promises 8 to 10: IndexOutOfBoundsException: "there is no literal of it". */
    private static void nodesOfCuts() {
        CellMapping x = twoInputs();
        x.and(0, 2);
        // Twice the least number is 0 in int arithmetic, and so a literal: but not of that node.
        for (int node : new int[] {-1, 3, LEAST, LEAST + 1, LEAST / 2, GREATEST, GREATEST / 2 + 1}) {
            Checks.noIndex("cuts of " + node, () -> x.cuts(node));
            Checks.noIndex("cut of " + node, () -> x.cut(node, 0));
            Checks.noIndex("function of " + node, () -> x.function(node, 0));
        }
        Checks.due("cuts of the first node", x.cuts(0), 0);
        Checks.due("cuts of the last node", x.cuts(2), 1);
        Checks.due("cut of the first node", x.cut(0, 0), -1);
        Checks.due("cut of the last node", x.cut(2, 0), 3);
        Checks.due("function of the first node", x.function(0, 0), -1);
        Checks.due("function of the last node", x.function(2, 0), 8);
        CellMapping full = new Shape(8, 24, 0, 0).make();
        Checks.due("cuts of node 31", full.cuts(31), 0);
        Checks.noIndex("cuts of node 32", () -> full.cuts(32));
        Checks.noIndex("cut of node 32", () -> full.cut(32, 0));
        Checks.noIndex("function of node 32", () -> full.function(32, 0));
    }

    /** Promises 9 and 10: "NONE if there are not so many", "also if k is below 0". */
    private static void cutNumbers() {
        CellMapping x = twoInputs();
        x.and(0, 2);
        x.and(4, 1);
        Checks.due("two cuts", x.cuts(3), 2);
        Checks.due("cut 0", x.cut(3, 0), 3);
        Checks.due("cut 1", x.cut(3, 1), 5);
        Checks.due("function 0", x.function(3, 0), 0);
        Checks.due("function 1", x.function(3, 1), 4);
        for (int node = 0; node < 4; node++) {
            int n = node;
            for (int k : new int[] {2, 3, GREATEST - 1, GREATEST}) {
                Checks.due("cut " + k + " of node " + n, x.cut(n, k), -1);
                Checks.due("function " + k + " of node " + n, x.function(n, k), -1);
            }
            for (int k : new int[] {-1, -2, LEAST}) {
                Checks.noIndex("cut " + k + " of node " + n, () -> x.cut(n, k));
                Checks.noIndex("function " + k + " of node " + n, () -> x.function(n, k));
            }
        }
        // One node's cuts end where they end, though the next node has some.
        Checks.due("cut 1 of the node before", x.cut(2, 1), -1);
        Checks.due("function 1 of the node before", x.function(2, 1), -1);
    }

    /** Promises 11, 12, 17 and 18: IndexOutOfBoundsException when there is no such literal. */
    private static void literalsAsked() {
        CellMapping x = twoInputs();
        x.cell(1, 1, 1);
        for (int literal : new int[] {-1, 4, LEAST, GREATEST}) {
            Checks.noIndex("arrival of " + literal, () -> x.arrival(literal));
            Checks.noIndex("gate of " + literal, () -> x.gate(literal, 0));
            Checks.noIndex("value of " + literal, () -> x.value(literal, 0));
            Checks.noIndex("mapped " + literal, () -> x.mapped(literal, 0));
        }
        dueLiteral("least", x, 0, -1, 1);
        dueLiteral("greatest", x, 3, 0, 0);
        CellMapping full = new Shape(8, 24, 0, 12).make();
        Checks.due("the last literal of a full object", full.value(63, 0x7F), 1);
        Checks.due("it is mapped", full.mapped(63, 0x7F), 1);
        Checks.due("it arrives", full.arrival(63), Shape.timeOf(7) + Shape.delayOf(0, 0));
        Checks.due("its gate", full.gate(63, 1), 62);
        Checks.noIndex("arrival of 64", () -> full.arrival(64));
        Checks.noIndex("gate of 64", () -> full.gate(64, 0));
        Checks.noIndex("value of 64", () -> full.value(64, 0));
        Checks.noIndex("mapped 64", () -> full.mapped(64, 0));
    }

    private static void dueLiteral(String name, CellMapping x, int literal, int cell, int value) {
        Checks.due(name + " literal's arrival", x.arrival(literal), 0);
        Checks.due(name + " literal's cell", x.gate(literal, 0), cell);
        Checks.due(name + " literal's value", x.value(literal, 3), value);
        Checks.due(name + " literal mapped", x.mapped(literal, 3), value);
    }

    /** Promise 12: "what = 0 its cell, 1 to 3 the literals at pins 0 to 2"; there is no other what. */
    private static void whatOfGates() {
        CellMapping x = twoInputs();
        x.input();
        x.and(0, 2);
        x.and(6, 4);
        x.and(8, 9);
        x.cell(3, 128, 1);
        x.cell(1, 1, 1);
        int[] due = {0, 0, 2, 4};
        for (int what = 0; what < 4; what++) {
            Checks.due("gate of three pins, what " + what, x.gate(8, what), due[what]);
        }
        for (int what : new int[] {-1, 4, LEAST, GREATEST}) {
            Checks.noIndex("what " + what + " of a gate of three pins", () -> x.gate(8, what));
            Checks.noIndex("what " + what + " of a gate of one pin", () -> x.gate(1, what));
            Checks.noIndex("what " + what + " of an input", () -> x.gate(0, what));
            Checks.noIndex("what " + what + " of what does not arrive", () -> x.gate(6, what));
        }
    }

    /** Promise 14: "NONE if there are not so many"; IndexOutOfBoundsException: "k is below 0". */
    private static void wantedNumbers() {
        CellMapping x = twoInputs();
        x.cell(1, 1, 1);
        Checks.noIndex("-1 without outputs", () -> x.wanted(-1));
        Checks.due("0 without outputs", x.wanted(0), -1);
        x.output(3);
        x.output(1);
        Checks.due("two are wanted", x.run(), 2);
        Checks.due("first by literals, not by outputs", x.wanted(0), 1);
        Checks.due("the last one", x.wanted(1), 3);
        Checks.due("one more", x.wanted(2), -1);
        Checks.due("greatest", x.wanted(GREATEST), -1);
        Checks.noIndex("-1", () -> x.wanted(-1));
        Checks.noIndex("least", () -> x.wanted(LEAST));
        x.and(0, 2);
        x.output(4);
        Checks.noIndex("-1 though an output does not arrive", () -> x.wanted(-1));
        Checks.due("0 when an output does not arrive", x.wanted(0), -1);
    }

    /** Promise 19: "what = 0 nodes, 1 inputs, 2 outputs, 3 cells"; there is no other what. */
    private static void whatOfCounts() {
        CellMapping x = new Shape(2, 3, 4, 6).make();
        Checks.due("what 0", x.count(0), 5);
        Checks.due("what 1", x.count(1), 2);
        Checks.due("what 2", x.count(2), 4);
        Checks.due("what 3", x.count(3), 6);
        for (int what : new int[] {-1, 4, LEAST, GREATEST}) {
            Checks.noIndex("what " + what, () -> x.count(what));
        }
    }

    /** Promise 17: "bit k: input k; others do not count": any number is an assignment. Promise 18 likewise. */
    private static void assignments() {
        CellMapping x = new CellMapping();
        for (int k = 0; k < 8; k++) {
            x.input();
        }
        x.cell(1, 1, 1);
        for (int k = 0; k < 8; k++) {
            dueValue("only bit " + k, x, 2 * k, 1 << k, 1);
            dueValue("all but bit " + k, x, 2 * k, ~(1 << k), 0);
            dueValue("the bits above", x, 2 * k, 0xFFFFFF00, 0);
            dueValue("the bits above but the sign", x, 2 * k, 0x7FFFFF00, 0);
            dueValue("least", x, 2 * k, LEAST, 0);
            dueValue("greatest", x, 2 * k, GREATEST, 1);
            dueValue("-1", x, 2 * k, -1, 1);
        }
        CellMapping two = twoInputs();
        two.cell(1, 1, 1);
        dueValue("bit 2 is of no input", two, 0, 4, 0);
        dueValue("bit 2 is of no input either", two, 2, 4, 0);
    }

    private static void dueValue(String name, CellMapping x, int literal, int assignment, int value) {
        Checks.due(name + ": value of " + literal, x.value(literal, assignment), value);
        Checks.due(name + ": value of its turned one", x.value(literal + 1, assignment), 1 - value);
        Checks.due(name + ": mapped " + literal, x.mapped(literal, assignment), value);
        Checks.due(name + ": mapped its turned one", x.mapped(literal + 1, assignment), 1 - value);
    }
}
