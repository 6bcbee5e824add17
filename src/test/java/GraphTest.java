/** Promises 1 to 4, 17, 19 and 20: the graph, its values, counts, and nothing at all. */
public final class GraphTest {
    public static void main(String[] args) {
        newObject();
        inputs();
        ands();
        outputs();
        values();
        valuesOfLateInputs();
        counts();
        clear();
        clearedGates();
        Checks.end();
    }

    private static void newObject() {
        CellMapping x = new CellMapping();
        nothingAtAll("new", x);
        Checks.due("NONE", CellMapping.NONE, -1);
    }

    private static void nothingAtAll(String when, CellMapping x) {
        for (int what = 0; what < 4; what++) {
            Checks.due(when + " count " + what, x.count(what), 0);
        }
        Checks.due(when + " run", x.run(), 0);
        Checks.due(when + " area", x.area(), 0);
        Checks.due(when + " worst", x.worst(), 0);
        Checks.due(when + " wanted", x.wanted(0), -1);
        Checks.noIndex(when + " and", () -> x.and(0, 0));
        Checks.noIndex(when + " output", () -> x.output(0));
        Checks.noIndex(when + " delay", () -> x.delay(0, 0, 0));
        Checks.noIndex(when + " arrives", () -> x.arrives(0, 0));
        Checks.noIndex(when + " cuts", () -> x.cuts(0));
        Checks.noIndex(when + " cut", () -> x.cut(0, 0));
        Checks.noIndex(when + " function", () -> x.function(0, 0));
        Checks.noIndex(when + " arrival", () -> x.arrival(0));
        Checks.noIndex(when + " gate", () -> x.gate(0, 0));
        Checks.noIndex(when + " value", () -> x.value(0, 0));
        Checks.noIndex(when + " mapped", () -> x.mapped(0, 0));
    }

    private static void inputs() {
        CellMapping x = new CellMapping();
        for (int k = 0; k < 8; k++) {
            Checks.due("input " + k, x.input(), 2 * k);
        }
        Checks.full("input 8", () -> x.input());
        Checks.due("inputs", x.count(1), 8);
        Checks.due("an and after all inputs", x.and(14, 15), 16);
    }

    private static void ands() {
        CellMapping x = new CellMapping();
        x.input();
        Checks.noIndex("left too great", () -> x.and(2, 0));
        Checks.noIndex("right too great", () -> x.and(0, 2));
        Checks.noIndex("left below 0", () -> x.and(-1, 0));
        Checks.noIndex("right below 0", () -> x.and(0, -1));
        Checks.noIndex("greatest", () -> x.and(0, Integer.MAX_VALUE));
        Checks.noIndex("least", () -> x.and(Integer.MIN_VALUE, 0));
        for (int k = 0; k < 24; k++) {
            Checks.due("the same and " + k, x.and(0, 1), 2 + 2 * k);
        }
        Checks.full("and 24", () -> x.and(0, 1));
        Checks.noIndex("no literal comes before no room", () -> x.and(0, 50));
        Checks.noIndex("no literal at the left either", () -> x.and(50, 0));
        for (int k = 1; k < 8; k++) {
            Checks.due("an input after all ands " + k, x.input(), 48 + 2 * k);
        }
        Checks.due("nodes", x.count(0), 32);
        Checks.full("input after 32 nodes", () -> x.input());
        Checks.full("and after 32 nodes", () -> x.and(63, 62));
        Checks.noIndex("there is no literal 64", () -> x.and(63, 64));
    }

    private static void outputs() {
        CellMapping x = new CellMapping();
        Checks.noIndex("output of nothing", () -> x.output(0));
        x.input();
        Checks.noIndex("literal below 0", () -> x.output(-1));
        Checks.noIndex("literal too great", () -> x.output(2));
        for (int k = 0; k < 6; k++) {
            Checks.due("output " + k, x.output(0), k);
        }
        Checks.full("output 6", () -> x.output(0));
        Checks.noIndex("no literal comes before no room", () -> x.output(2));
        Checks.due("outputs", x.count(2), 6);
    }

    private static void values() {
        CellMapping x = new CellMapping();
        int a = x.input();
        int b = x.input();
        int both = x.and(a, b);
        int neither = x.and(a ^ 1, b ^ 1);
        int differ = x.and(both ^ 1, neither ^ 1);
        for (int v = 0; v < 4; v++) {
            int p = v & 1;
            int q = v >> 1;
            // The bits above the inputs' do not count.
            int assignment = v | 0xABCDEF00;
            Checks.due("a", x.value(a, assignment), p);
            Checks.due("not a", x.value(a ^ 1, assignment), 1 - p);
            Checks.due("both", x.value(both, assignment), p & q);
            Checks.due("not both", x.value(both ^ 1, assignment), 1 - (p & q));
            Checks.due("neither", x.value(neither, v), (1 - p) & (1 - q));
            Checks.due("differ", x.value(differ, v), p ^ q);
            Checks.due("alike", x.value(differ ^ 1, v - 4), 1 - (p ^ q));
        }
        Checks.noIndex("value of -1", () -> x.value(-1, 0));
        Checks.noIndex("value of 10", () -> x.value(10, 0));
    }

    /** Bit k is input k, not node k. */
    private static void valuesOfLateInputs() {
        CellMapping x = new CellMapping();
        x.input();
        for (int k = 0; k < 24; k++) {
            x.and(0, 0);
        }
        for (int k = 1; k < 8; k++) {
            int literal = x.input();
            Checks.due("late input " + k + " is 1", x.value(literal, 1 << k), 1);
            Checks.due("late input " + k + " is 0", x.value(literal, ~(1 << k)), 0);
            Checks.due("late input " + k + " turned", x.value(literal + 1, ~(1 << k)), 1);
        }
    }

    private static void counts() {
        CellMapping x = new CellMapping();
        x.input();
        x.input();
        x.and(0, 2);
        x.output(4);
        x.output(4);
        x.output(5);
        x.cell(1, 1, 1);
        x.cell(2, 1, 1);
        x.cell(2, 1, 1);
        x.cell(2, 1, 1);
        Checks.due("nodes", x.count(0), 3);
        Checks.due("inputs", x.count(1), 2);
        Checks.due("outputs", x.count(2), 3);
        Checks.due("cells", x.count(3), 4);
        Checks.noIndex("count -1", () -> x.count(-1));
        Checks.noIndex("count 4", () -> x.count(4));
        Checks.noIndex("count of the least", () -> x.count(Integer.MIN_VALUE));
    }

    private static void clear() {
        CellMapping x = new CellMapping();
        x.clear();
        nothingAtAll("cleared at once", x);
        for (int round = 0; round < 2; round++) {
            x.input();
            x.input();
            x.and(0, 2);
            x.and(4, 1);
            x.cell(1, 1, 7);
            x.cell(2, 8, 9);
            x.delay(0, 0, 11);
            x.delay(1, 1, 12);
            x.arrives(1, 13);
            x.output(6);
            Checks.due("worst before clear", x.worst(), 23);
            Checks.due("area before clear", x.area(), 25);
            x.clear();
            nothingAtAll("cleared", x);
        }
        Checks.due("first input again", x.input(), 0);
        Checks.due("second input again", x.input(), 2);
        Checks.due("its time is 0 again", x.arrival(2), 0);
        Checks.due("it is told 0 already", x.arrives(1, 0), false);
        Checks.due("first and again", x.and(0, 2), 4);
        Checks.due("cuts again", x.cuts(2), 1);
        Checks.due("first cell again", x.cell(1, 1, 7), 0);
        Checks.due("its delay is 0 already", x.delay(0, 0, 0), false);
        Checks.due("no and without cell 1", x.arrival(4), -1);
        Checks.due("first output again", x.output(1), 0);
        Checks.due("worst again", x.worst(), 0);
        Checks.due("area again", x.area(), 7);
    }

    /** What was asked of a node before clear() does not stay with the node of the same number. */
    private static void clearedGates() {
        CellMapping x = new CellMapping();
        x.input();
        x.input();
        x.and(0, 2);
        x.cell(1, 1, 1);
        x.cell(2, 8, 1);
        x.arrives(0, 5);
        x.delay(0, 0, 2);
        Checks.due("turned before clear", x.arrival(1), 7);
        Checks.due("and before clear", x.arrival(4), 5);
        x.clear();
        x.input();
        Checks.due("turned after clear", x.arrival(1), -1);
        x.input();
        x.and(3, 3);
        x.cell(1, 1, 1);
        Checks.due("and after clear", x.arrival(4), 0);
        Checks.due("its cell", x.gate(4, 0), 0);
        Checks.due("its pin", x.gate(4, 1), 2);
        Checks.due("its cuts", x.cut(2, 0), 2);
        Checks.due("its function", x.function(2, 0), 1);
    }
}
