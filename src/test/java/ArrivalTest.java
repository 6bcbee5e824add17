/** Promises 11, 12 and 18: arrivals, gates, and values by gates. */
public final class ArrivalTest {
    private static final int NOT = 1;
    private static final int AND = 8;
    private static final int NAND = 7;

    public static void main(String[] args) {
        inputsAlone();
        movesAndTurns();
        turningOnlyOnce();
        fitBeforeTurn();
        lesserCellBeforeLesserLiterals();
        lesserLiteralsPinByPin();
        earlierBeforeAll();
        pinsThatDoNotCount();
        constantsAndWires();
        leavesOneAboveTheOther();
        threeLeaves();
        sixOrders();
        eightTurns();
        changesCountAtOnce();
        wrongInputs();
        Checks.end();
    }

    private static void dueGate(String name, CellMapping x, int literal, int arrival, int... gate) {
        Checks.due(name + " arrival", x.arrival(literal), arrival);
        for (int what = 0; what < 4; what++) {
            Checks.due(name + " gate " + what, x.gate(literal, what), what < gate.length ? gate[what] : -1);
        }
        for (int v = 0; v < 1 << x.count(1); v++) {
            int want = arrival == -1 ? -1 : x.value(literal, v);
            Checks.due(name + " mapped " + v, x.mapped(literal, v | 0x55AA5500), want);
        }
    }

    private static CellMapping withInputs(int count) {
        CellMapping x = new CellMapping();
        for (int k = 0; k < count; k++) {
            x.input();
        }
        return x;
    }

    private static void inputsAlone() {
        CellMapping x = withInputs(2);
        x.arrives(1, 40);
        dueGate("input 0", x, 0, 0);
        dueGate("input 0 turned without cells", x, 1, -1);
        x.cell(1, 2, 1);
        x.cell(2, NAND, 1);
        dueGate("no cell that turns", x, 1, -1);
        x.cell(1, NOT, 1);
        x.cell(1, NOT, 1);
        x.delay(2, 0, 5);
        dueGate("the earlier of two", x, 1, 0, 3, 0);
        x.delay(3, 0, 5);
        dueGate("the lesser of two", x, 3, 45, 2, 2);
        dueGate("an input that is not turned has no gate", x, 2, 40);
    }

    /** Each way to turn the two pins, and the output, from one cell without any cell that turns. */
    private static void movesAndTurns() {
        for (int turns = 0; turns < 4; turns++) {
            CellMapping x = withInputs(2);
            x.and(turns & 1, 2 + (turns >> 1));
            x.cell(2, AND, 1);
            dueGate("not without turned inputs " + turns, x, 4, turns == 0 ? 0 : -1, turns == 0 ? new int[] {0, 0, 2} : new int[] {});
            dueGate("the cell has no turned output " + turns, x, 5, -1);
            x.cell(1, NOT, 1);
            dueGate("with turned inputs " + turns, x, 4, 0, 0, turns & 1, 2 + (turns >> 1));
            dueGate("turned behind " + turns, x, 5, 0, 1, 4);
        }
        CellMapping x = withInputs(2);
        x.and(0, 3);
        x.cell(2, 4, 1);
        dueGate("the pins change places", x, 4, 0, 0, 2, 0);
        x.cell(2, 2, 1);
        dueGate("the lesser cell all the same", x, 4, 0, 0, 2, 0);
        x.delay(0, 1, 1);
        dueGate("the other cell is earlier", x, 4, 0, 1, 0, 2);
        x.arrives(0, 10);
        x.delay(1, 0, 1);
        x.delay(1, 1, 5);
        dueGate("the greatest of time and delay together", x, 4, 11, 0, 2, 0);
        x.arrives(1, 13);
        dueGate("the other pin is the late one", x, 4, 13, 0, 2, 0);
    }

    private static void turningOnlyOnce() {
        CellMapping x = withInputs(2);
        x.and(0, 2);
        x.cell(1, NOT, 1);
        x.delay(0, 0, 3);
        dueGate("an and that no cell makes", x, 4, -1);
        dueGate("nor turned", x, 5, -1);
        x.cell(2, AND, 1);
        x.delay(1, 0, 20);
        dueGate("made", x, 4, 20, 1, 0, 2);
        dueGate("turned", x, 5, 23, 0, 4);
        x.cell(2, NAND, 1);
        x.delay(2, 0, 4);
        dueGate("turned is made earlier", x, 5, 4, 2, 0, 2);
        dueGate("and made by turning that", x, 4, 7, 0, 5);
        x.delay(0, 0, 0);
        dueGate("without delay", x, 4, 4, 0, 5);
        dueGate("still by (1)", x, 5, 4, 2, 0, 2);
    }

    private static void fitBeforeTurn() {
        CellMapping x = withInputs(2);
        x.and(0, 2);
        x.cell(1, NOT, 1);
        x.cell(2, AND, 1);
        x.cell(2, NAND, 1);
        dueGate("by (1) though cell 0 is as early", x, 4, 0, 1, 0, 2);
        dueGate("turned by (1) too", x, 5, 0, 2, 0, 2);
        x.and(1, 1);
        dueGate("a wire from a turned input, by (1)", x, 6, 0, 0, 0);
        dueGate("its turned one, by (1) from a turned input", x, 7, 0, 0, 1);
    }

    private static void lesserCellBeforeLesserLiterals() {
        CellMapping x = withInputs(2);
        x.and(1, 2);
        x.cell(1, NOT, 1);
        x.cell(2, 2, 1);
        x.cell(2, 4, 1);
        x.delay(0, 0, 1);
        // Without turned inputs, that come later, there is one way for each cell.
        dueGate("cell 1 with literals 2, 0 before cell 2 with 0, 2", x, 4, 0, 1, 2, 0);
        x.delay(1, 0, 1);
        dueGate("cell 2 when it is earlier", x, 4, 0, 2, 0, 2);
        x.delay(0, 0, 0);
        x.delay(1, 0, 0);
        dueGate("cell 1 with both turned", x, 4, 0, 1, 1, 3);
    }

    private static void lesserLiteralsPinByPin() {
        CellMapping x = withInputs(3);
        x.cell(1, NOT, 1);
        x.cell(2, AND, 1);
        x.cell(3, 128, 1);
        x.and(2, 0);
        x.and(4, 6);
        dueGate("two pins in order", x, 6, 0, 1, 0, 2);
        dueGate("cell 1 before cell 2", x, 8, 0, 1, 4, 6);
        x.arrives(0, 9);
        x.delay(1, 0, 2);
        dueGate("the late one at the quick pin", x, 6, 9, 1, 2, 0);
        dueGate("two and one", x, 8, 9, 1, 4, 6);
        x.delay(1, 1, 2);
        dueGate("three at once is earlier", x, 8, 9, 2, 0, 2, 4);
        x.delay(2, 0, 1);
        dueGate("least at pin 0 that is not too late", x, 8, 9, 2, 2, 0, 4);
        x.delay(2, 1, 1);
        dueGate("the late one at pin 2", x, 8, 9, 2, 2, 4, 0);
        x.cell(2, 6, 1);
        x.and(0, 3);
        x.and(1, 2);
        x.and(11, 13);
        x.delay(0, 0, 1000);
        x.arrives(0, 0);
        // Exclusive or is the same with both pins turned, and with its pins in the other order.
        dueGate("least literals of four ways", x, 15, 0, 3, 0, 2);
        dueGate("its turned one needs one turned pin", x, 14, 1000, 3, 0, 3);
    }

    private static void earlierBeforeAll() {
        CellMapping x = withInputs(1);
        x.cell(1, 2, 1);
        x.cell(1, NOT, 1);
        x.delay(0, 0, 6);
        x.delay(1, 0, 2);
        x.and(0, 0);
        x.and(2, 2);
        dueGate("turned twice is earlier than a wire", x, 2, 4, 1, 1);
        dueGate("turned once", x, 3, 2, 1, 0);
        dueGate("a chain's end takes the input", x, 4, 4, 1, 1);
        dueGate("and turned", x, 5, 2, 1, 0);
        x.delay(0, 0, 4);
        dueGate("the wire is the lesser cell", x, 4, 4, 0, 0);
        x.delay(0, 0, 0);
        dueGate("least literal of input and node", x, 4, 0, 0, 0);
    }

    /** A pin that changes nothing is a pin all the same: its leaf must arrive, and it may be the late one. */
    private static void pinsThatDoNotCount() {
        CellMapping x = withInputs(2);
        x.and(0, 2);
        x.and(4, 1);
        x.cell(2, 0, 1);
        x.arrives(1, 50);
        x.delay(0, 0, 7);
        dueGate("always 0 by the inputs", x, 6, 50, 0, 0, 2);
        dueGate("the and itself does not arrive", x, 4, -1);
        x.cell(2, 12, 1);
        dueGate("pin 1 alone does not make an and", x, 4, -1);
    }

    private static void constantsAndWires() {
        CellMapping x = withInputs(1);
        x.and(0, 1);
        x.cell(1, 0, 3);
        dueGate("never", x, 2, 0, 0, 0);
        dueGate("always", x, 3, -1);
        x.cell(1, NOT, 3);
        x.delay(1, 0, 5);
        dueGate("turned never", x, 3, 5, 1, 2);
        x.cell(1, 3, 3);
        dueGate("always by a cell", x, 3, 0, 2, 0);
        x.arrives(0, 8);
        dueGate("the input counts", x, 3, 8, 2, 0);
        CellMapping other = withInputs(3);
        other.and(0, 2);
        other.and(4, 5);
        other.cell(1, 0, 3);
        other.cell(2, AND, 3);
        dueGate("what never comes still has its own leaf at the pin", other, 8, 0, 0, 4);
    }

    /** Leaves are free: a cell fits by all their values, also by those that the graph never has. */
    private static void leavesOneAboveTheOther() {
        CellMapping x = withInputs(2);
        x.and(0, 2);
        x.and(5, 0);
        x.cell(2, AND, 1);
        x.cell(1, NOT, 1);
        x.delay(0, 0, 1);
        x.delay(0, 1, 1);
        dueGate("by the inputs", x, 6, 1, 0, 0, 3);
        x.clear();
        x.input();
        x.input();
        x.and(0, 2);
        x.and(5, 0);
        x.cell(2, NAND, 1);
        x.cell(2, 6, 1);
        x.delay(1, 0, 1);
        // Never both at once in the graph would make exclusive or do for 0 and not 2; but it must fit for all values.
        dueGate("nand", x, 5, 0, 0, 0, 2);
        dueGate("not by exclusive or", x, 6, -1);
        dueGate("its turned one by the input and nand", x, 7, 0, 0, 0, 5);
    }

    private static void threeLeaves() {
        int choose = 0xCA;
        CellMapping x = withInputs(3);
        int whenSet = x.and(4, 2);
        int whenNot = x.and(5, 0);
        int not = x.and(whenSet ^ 1, whenNot ^ 1);
        x.cell(3, choose, 1);
        dueGate("one of two by the third", x, not ^ 1, 0, 0, 0, 2, 4);
        dueGate("turned needs turned inputs", x, not, -1);
        x.cell(1, NOT, 1);
        x.delay(1, 0, 9);
        dueGate("turned by turning the outcome, or both", x, not, 9, 0, 1, 3, 4);
        x.delay(0, 2, 100);
        dueGate("pin 2 is late", x, not ^ 1, 100, 0, 0, 2, 4);
    }

    /** First and not (second and not third): without turned inputs each leaf has one pin where it fits. */
    private static void sixOrders() {
        int[] orders = {0, 2, 4, 0, 4, 2, 2, 0, 4, 2, 4, 0, 4, 0, 2, 4, 2, 0};
        for (int i = 0; i < orders.length; i += 3) {
            CellMapping x = withInputs(3);
            int inner = x.and(orders[i + 1], orders[i + 2] + 1);
            int outer = x.and(orders[i], inner + 1);
            x.cell(3, 0xA2, 1);
            x.delay(0, 0, 1);
            x.delay(0, 1, 20);
            x.delay(0, 2, 300);
            x.arrives(orders[i + 1] / 2, 500);
            dueGate("order " + i / 3, x, outer, 520, 0, orders[i], orders[i + 1], orders[i + 2]);
        }
    }

    /** The same with turned inputs: second and third may change places when both are turned. */
    private static void eightTurns() {
        for (int turns = 0; turns < 8; turns++) {
            int first = turns & 1;
            int second = 2 + (turns >> 1 & 1);
            int third = 4 + (turns >> 2 & 1);
            CellMapping x = withInputs(3);
            int inner = x.and(second, third ^ 1);
            int outer = x.and(first, inner ^ 1);
            x.cell(3, 0xA2, 1);
            x.cell(1, NOT, 1);
            dueGate("the lesser at pin 1, turns " + turns, x, outer, 0, 0, first, second, third);
            x.arrives(1, 10);
            x.delay(0, 1, 5);
            dueGate("the late one at pin 2, turns " + turns, x, outer, 10, 0, first, third ^ 1, second ^ 1);
        }
    }

    private static void changesCountAtOnce() {
        CellMapping x = withInputs(2);
        x.and(0, 2);
        dueGate("no cell", x, 4, -1);
        x.cell(2, AND, 1);
        dueGate("a cell", x, 4, 0, 0, 0, 2);
        x.delay(0, 1, 6);
        dueGate("a delay", x, 4, 6, 0, 0, 2);
        x.arrives(0, 2);
        dueGate("a time", x, 4, 6, 0, 0, 2);
        x.arrives(1, 7);
        dueGate("a later time", x, 4, 8, 0, 2, 0);
        x.and(4, 0);
        dueGate("a node more", x, 6, 8, 0, 2, 0);
        x.input();
        dueGate("an input more", x, 8, 0);
        x.and(8, 4);
        dueGate("and behind it", x, 10, 8, 0, 4, 8);
    }

    private static void wrongInputs() {
        CellMapping x = withInputs(1);
        x.cell(1, NOT, 1);
        Checks.noIndex("arrival of -1", () -> x.arrival(-1));
        Checks.noIndex("arrival of 2", () -> x.arrival(2));
        Checks.noIndex("gate of -1", () -> x.gate(-1, 0));
        Checks.noIndex("gate of 2", () -> x.gate(2, 0));
        Checks.noIndex("gate what -1", () -> x.gate(0, -1));
        Checks.noIndex("gate what 4", () -> x.gate(0, 4));
        Checks.noIndex("gate what 4 of a gate", () -> x.gate(1, 4));
        Checks.noIndex("mapped of -1", () -> x.mapped(-1, 0));
        Checks.noIndex("mapped of 2", () -> x.mapped(2, 0));
    }
}
