/**
 * What is answered at the edges (promises 8 to 18): where there is none, where there are not so many, one leaf and three,
 * and the greatest numbers that can come. Above each test stand the document's words for it.
 */
public final class EdgeTest {
    private static final int NOT = 1;
    private static final int AND = 8;

    public static void main(String[] args) {
        noCutsOfInputs();
        oneLeaf();
        threeLeavesAndNoFourth();
        noSmallerPart();
        leastAndGreatestFunctions();
        greatestNodes();
        pinsAsManyAsLeaves();
        turningIsByOnePin();
        notArriving();
        noGateOfInputs();
        pinsThatThereAreNot();
        lastCell();
        runWithoutOutputs();
        firstOutputThatDoesNotArrive();
        noneWantedWhenOneIsMissing();
        worstOfOutputs();
        greatestOfAll();
        firstOfEqualGates();
        Checks.end();
    }

    private static CellMapping withInputs(int count) {
        CellMapping x = new CellMapping();
        for (int k = 0; k < count; k++) {
            x.input();
        }
        return x;
    }

    private static void dueCuts(String name, CellMapping x, int node, long... cutsAndFunctions) {
        int size = cutsAndFunctions.length / 2;
        Checks.due(name + ": cuts", x.cuts(node), size);
        for (int k = 0; k < size; k++) {
            Checks.due(name + ": cut " + k, x.cut(node, k), cutsAndFunctions[2 * k]);
            Checks.due(name + ": function " + k, x.function(node, k), cutsAndFunctions[2 * k + 1]);
        }
        Checks.due(name + ": no cut more", x.cut(node, size), -1);
        Checks.due(name + ": no function more", x.function(node, size), -1);
    }

    private static void dueGate(String name, CellMapping x, int literal, int... gate) {
        for (int what = 0; what < 4; what++) {
            Checks.due(name + ": gate " + what, x.gate(literal, what), what < gate.length ? gate[what] : -1);
        }
    }

    private static void dueMissing(String name, CellMapping x, int literal) {
        Checks.due(name + ": arrival", x.arrival(literal), -1);
        dueGate(name, x, literal);
        Checks.due(name + ": mapped in 0", x.mapped(literal, 0), -1);
        Checks.due(name + ": mapped in -1", x.mapped(literal, -1), -1);
    }

    /** Promise 8: "(0 for an input)"; promises 9 and 10: NONE. */
    private static void noCutsOfInputs() {
        CellMapping x = withInputs(1);
        x.and(0, 0);
        x.input();
        dueCuts("the first input", x, 0);
        dueCuts("an input behind an and", x, 2);
    }

    /** "A CUT of an AND is a set of one to three other nodes": one is enough, and the AND itself is none. */
    private static void oneLeaf() {
        CellMapping x = withInputs(1);
        x.and(0, 0);
        x.and(3, 3);
        dueCuts("one leaf alone", x, 1, 1, 2);
        dueCuts("one leaf or another, in order", x, 2, 1, 1, 2, 1);
    }

    /** "one to three other nodes": with four ways down to inputs, what needs four leaves is no cut. */
    private static void threeLeavesAndNoFourth() {
        CellMapping x = withInputs(4);
        x.and(0, 2);
        x.and(8, 4);
        x.and(10, 6);
        dueCuts("two inputs", x, 4, 3, 8);
        dueCuts("three inputs are a cut", x, 5, 7, 128, 20, 8);
        dueCuts("four inputs are none", x, 6, 28, 128, 40, 8);
    }

    /** "no smaller part of the set is such a one". */
    private static void noSmallerPart() {
        CellMapping x = withInputs(2);
        x.and(0, 2);
        x.and(0, 4);
        x.and(6, 4);
        dueCuts("neither {0, 1, 2} nor {0, 1} and more", x, 3, 3, 8, 5, 8);
        dueCuts("each without what it does not need", x, 4, 3, 8, 5, 8, 12, 8);
    }

    /** Promise 10: "bit v": none of the bits, and all of them, by one, two and three leaves. */
    private static void leastAndGreatestFunctions() {
        CellMapping x = withInputs(3);
        x.and(0, 1);
        x.and(7, 7);
        dueCuts("never, by one leaf", x, 3, 1, 0);
        dueCuts("always, by one leaf", x, 4, 1, 3, 8, 1);
        x.and(0, 2);
        x.and(10, 1);
        x.and(13, 13);
        dueCuts("never, by two leaves", x, 6, 3, 0, 33, 4);
        dueCuts("always, by two leaves", x, 7, 3, 15, 33, 11, 64, 1);
        x.and(10, 4);
        x.and(16, 1);
        x.and(19, 19);
        dueCuts("never, by three leaves", x, 9, 7, 0, 37, 64, 257, 4);
        dueCuts("always, by three leaves", x, 10, 7, 255, 37, 191, 257, 11, 512, 1);
    }

    /** Promise 9: "as bits of nodes, these as numbers without sign in order": up to the last node that can be a leaf. */
    private static void greatestNodes() {
        CellMapping x = withInputs(8);
        for (int k = 0; k < 22; k++) {
            x.and(0, 2);
        }
        x.and(4, 6);
        x.and(59, 60);
        dueCuts("node 30", x, 30, 12, 8);
        dueCuts("node 31", x, 31, 0x2000000CL, 8, 0x40000003L, 0x70, 0x60000000L, 4);
    }

    /** (1) "a cut with as many leaves as it has pins, one leaf at each pin". */
    private static void pinsAsManyAsLeaves() {
        CellMapping x = withInputs(2);
        x.and(0, 2);
        // By one pin more, or one leaf at two pins, these would do.
        x.cell(3, 0x88, 1);
        x.cell(1, 2, 1);
        dueMissing("no cell of two pins", x, 4);
        x.and(0, 0);
        x.clear();
        x.input();
        x.and(0, 0);
        x.cell(2, AND, 1);
        x.cell(3, 128, 1);
        dueMissing("one leaf is not put at two pins", x, 2);
        x.cell(1, 2, 1);
        dueGate("one leaf at one pin", x, 2, 2, 0);
    }

    /** (2) "it has one pin, at that is the literal turned, and what comes is not what the pin is". */
    private static void turningIsByOnePin() {
        CellMapping x = withInputs(1);
        x.cell(1, 0, 1);
        x.cell(1, 2, 1);
        x.cell(1, 3, 1);
        x.cell(2, 1, 1);
        x.cell(2, 3, 1);
        x.cell(2, 5, 1);
        x.cell(3, 1, 1);
        dueMissing("none of these turns", x, 1);
        x.cell(1, NOT, 1);
        dueGate("this one does", x, 1, 7, 0);
    }

    /** "Literals for which there is none do not arrive"; promises 11, 12 and 18: NONE. */
    private static void notArriving() {
        CellMapping x = withInputs(2);
        x.and(0, 2);
        x.and(5, 0);
        dueMissing("an input turned without cells", x, 1);
        dueMissing("an and without cells", x, 4);
        dueMissing("an and turned without cells", x, 5);
        Checks.due("an input arrives without cells", x.arrival(2), 0);
        Checks.due("an input is mapped without cells to 1", x.mapped(2, 2), 1);
        Checks.due("an input is mapped without cells to 0", x.mapped(2, 1), 0);
        x.cell(2, AND, 1);
        Checks.due("the and arrives", x.arrival(4), 0);
        dueMissing("what needs it turned does not", x, 6);
        dueMissing("nor itself turned", x, 5);
        x.cell(1, NOT, 1);
        for (int literal = 0; literal < 8; literal++) {
            Checks.due("all arrive: " + literal, x.arrival(literal), 0);
            Checks.due("all are mapped: " + literal, x.mapped(literal, 1), x.value(literal, 1));
        }
    }

    /** Promise 12: NONE "for inputs that are not turned", as late as they are and whatever cells there are. */
    private static void noGateOfInputs() {
        CellMapping x = withInputs(1);
        x.cell(1, NOT, 1);
        x.cell(1, 2, 1);
        x.cell(1, 3, 1);
        dueGate("the first input", x, 0);
        dueGate("the first input turned", x, 1, 0, 0);
        x.arrives(0, 1000);
        Checks.due("a late input", x.arrival(0), 1000);
        dueGate("a late input", x, 0);
        dueGate("a late input turned", x, 1, 0, 0);
    }

    /** Promise 12: "NONE for pins that there are not": behind one pin, behind two, and none behind three. */
    private static void pinsThatThereAreNot() {
        CellMapping x = withInputs(3);
        x.and(0, 2);
        x.and(6, 4);
        x.and(0, 0);
        x.cell(3, 128, 1);
        x.cell(2, AND, 1);
        x.cell(1, 2, 1);
        dueGate("three pins", x, 8, 0, 0, 2, 4);
        dueGate("two pins", x, 6, 1, 0, 2);
        dueGate("one pin", x, 10, 2, 0);
        x.cell(1, NOT, 1);
        dueGate("one pin by (2)", x, 7, 3, 6);
    }

    /** Promise 12: the last of twelve cells is one too. */
    private static void lastCell() {
        CellMapping x = withInputs(3);
        x.and(0, 2);
        x.and(6, 4);
        for (int k = 0; k < 11; k++) {
            x.cell(3, 0, 1);
        }
        x.cell(3, 128, 1000);
        x.delay(11, 0, 1);
        x.delay(11, 1, 1000);
        x.delay(11, 2, 3);
        x.output(8);
        dueGate("by cell 11", x, 8, 11, 0, 2, 4);
        Checks.due("its arrival", x.arrival(8), 1000);
        Checks.due("its area", x.area(), 1000);
        Checks.due("by it 1", x.mapped(8, 7), 1);
        Checks.due("by it 0", x.mapped(8, 6), 0);
    }

    /** Promises 13 to 16: no output, or none that wants a gate. */
    private static void runWithoutOutputs() {
        CellMapping x = withInputs(2);
        x.and(0, 2);
        x.cell(2, AND, 10);
        x.arrives(0, 30);
        dueRun("no output, though gates are there", x, 0, 0, 0);
        x.output(0);
        dueRun("an input is no gate", x, 0, 0, 30);
        x.output(4);
        dueRun("a gate", x, 1, 10, 30);
    }

    private static void dueRun(String name, CellMapping x, int gates, int area, int worst) {
        Checks.due(name + ": run", x.run(), gates);
        Checks.due(name + ": the last wanted is there", x.wanted(gates) == -1 && (gates == 0 || x.wanted(gates - 1) != -1), true);
        Checks.due(name + ": area", x.area(), area);
        Checks.due(name + ": worst", x.worst(), worst);
    }

    /** Promise 13: "-1 minus the first output that does not arrive": from -1 to -6. */
    private static void firstOutputThatDoesNotArrive() {
        for (int first = 0; first < 6; first++) {
            CellMapping x = withInputs(2);
            x.and(0, 2);
            for (int k = 0; k < 6; k++) {
                // Behind the first one there are others that do, and that do not.
                x.output(k < first || k == first + 1 ? 2 : 4);
            }
            Checks.due("first is output " + first, x.run(), -1 - first);
            x.cell(2, AND, 1);
            Checks.due("all arrive " + first, x.run(), 1);
        }
    }

    /** "If an output does not arrive there are none"; promises 14 to 16: NONE, 0, NONE. */
    private static void noneWantedWhenOneIsMissing() {
        for (int missing = 0; missing < 3; missing++) {
            CellMapping x = withInputs(2);
            x.and(0, 2);
            x.cell(2, AND, 10);
            x.arrives(0, 5);
            for (int k = 0; k < 3; k++) {
                x.output(k == missing ? 1 : 4);
            }
            Checks.due("run without output " + missing, x.run(), -1 - missing);
            Checks.due("wanted(0) without output " + missing, x.wanted(0), -1);
            Checks.due("wanted(1) without output " + missing, x.wanted(1), -1);
            Checks.due("area without output " + missing, x.area(), 0);
            Checks.due("worst without output " + missing, x.worst(), -1);
            x.cell(1, NOT, 7);
            dueRun("with output " + missing, x, 2, 17, 5);
        }
    }

    /** Promise 16: "The greatest arrival of outputs; 0 without any", wherever the greatest one stands. */
    private static void worstOfOutputs() {
        for (int late = 0; late < 6; late++) {
            CellMapping x = withInputs(6);
            x.arrives(late, 1000);
            Checks.due("without any output", x.worst(), 0);
            for (int k = 0; k < 6; k++) {
                x.output(2 * k);
                Checks.due("with outputs to " + k + ", late is " + late, x.worst(), k < late ? 0 : 1000);
            }
        }
    }

    /** As many gates as there can be, each as late and as large as it can be. */
    private static void greatestOfAll() {
        CellMapping x = tower();
        Checks.due("all literals but eight", x.run(), 56);
        Checks.due("the first", x.wanted(0), 1);
        Checks.due("the last of turned inputs", x.wanted(7), 15);
        Checks.due("the first and", x.wanted(8), 16);
        Checks.due("the last", x.wanted(55), 63);
        Checks.due("no more", x.wanted(56), -1);
        Checks.due("area", x.area(), 56000);
        Checks.due("worst", x.worst(), 50000);
        Checks.due("the last and", x.arrival(62), 49000);
        Checks.due("the last literal", x.arrival(63), 50000);
        dueGate("the last and", x, 62, 1, 15, 61);
        dueGate("the last literal", x, 63, 0, 62);
        for (int assignment = 0; assignment < 256; assignment += 5) {
            Checks.due("mapped " + assignment, x.mapped(63, assignment), x.value(63, assignment));
            Checks.due("mapped and " + assignment, x.mapped(62, assignment), 1 - x.value(63, assignment));
        }
    }

    /** Each AND is of the AND before it, turned, and of an input, turned: so every literal is wanted. */
    private static CellMapping tower() {
        CellMapping x = withInputs(8);
        int top = 14;
        for (int k = 0; k < 24; k++) {
            top = x.and(top + 1, 2 * (k % 8) + 1);
        }
        x.cell(1, NOT, 1000);
        x.cell(2, AND, 1000);
        x.delay(0, 0, 1000);
        x.delay(1, 0, 1000);
        x.delay(1, 1, 1000);
        for (int k = 0; k < 8; k++) {
            x.arrives(k, 1000);
        }
        x.output(63);
        return x;
    }

    /** "of several first one by (1); then the one of the lesser cell; then with the lesser literals at pin 0, then 1, then 2". */
    private static void firstOfEqualGates() {
        CellMapping x = withInputs(3);
        x.and(0, 2);
        x.and(6, 4);
        x.cell(1, NOT, 1);
        x.cell(3, 128, 1);
        x.cell(3, 127, 1);
        x.cell(3, 128, 1);
        x.cell(3, 1, 1);
        dueGate("(1) by cell 2 before (2) by cell 0", x, 9, 2, 0, 2, 4);
        dueGate("cell 1 before cells 3 and 4", x, 8, 1, 0, 2, 4);
        x.delay(2, 0, 1);
        dueGate("one later, and (2) is earlier", x, 9, 0, 8);
        x.delay(0, 0, 1);
        dueGate("as late as (2), and (1) is first again", x, 9, 2, 0, 2, 4);
        x.arrives(0, 1);
        x.delay(1, 0, 1);
        dueGate("the late input at the first pin that is not slow", x, 8, 1, 2, 0, 4);
        x.delay(1, 1, 1);
        dueGate("the late input at the only pin that is not slow", x, 8, 1, 2, 4, 0);
        x.delay(1, 2, 1);
        dueGate("cell 3 is earlier than cell 1", x, 8, 3, 0, 2, 4);
    }
}
