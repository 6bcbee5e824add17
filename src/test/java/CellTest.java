/** Promises 5 to 7: cells, their delays, and when inputs arrive. */
public final class CellTest {
    public static void main(String[] args) {
        ranges();
        twelveCells();
        delays();
        inputTimes();
        Checks.end();
    }

    private static void ranges() {
        CellMapping x = new CellMapping();
        int[] greatest = {0, 3, 15, 255};
        for (int pins = 1; pins <= 3; pins++) {
            int p = pins;
            Checks.due("least truth", x.cell(p, 0, 1), 2 * p - 2);
            Checks.due("greatest truth", x.cell(p, greatest[p], 1000), 2 * p - 1);
            Checks.outOfRange("truth below", () -> x.cell(p, -1, 1));
            Checks.outOfRange("truth above", () -> x.cell(p, greatest[p] + 1, 1));
            Checks.outOfRange("area 0", () -> x.cell(p, 1, 0));
            Checks.outOfRange("area below 0", () -> x.cell(p, 1, -5));
            Checks.outOfRange("area 1001", () -> x.cell(p, 1, 1001));
        }
        Checks.outOfRange("no pin", () -> x.cell(0, 0, 1));
        Checks.outOfRange("four pins", () -> x.cell(4, 0, 1));
        Checks.outOfRange("pins below 0", () -> x.cell(-1, 0, 1));
        Checks.outOfRange("32 pins", () -> x.cell(32, 0, 1));
        Checks.outOfRange("33 pins", () -> x.cell(33, 0, 1));
        Checks.outOfRange("least pins", () -> x.cell(Integer.MIN_VALUE, 0, 1));
        Checks.outOfRange("greatest truth of all", () -> x.cell(3, Integer.MAX_VALUE, 1));
        Checks.due("cells that came", x.count(3), 6);
    }

    private static void twelveCells() {
        CellMapping x = new CellMapping();
        for (int k = 0; k < 12; k++) {
            Checks.due("cell " + k, x.cell(1 + k % 3, k % 4, 1 + k), k);
        }
        Checks.full("cell 12", () -> x.cell(1, 1, 1));
        Checks.full("no room comes before a number out of its range", () -> x.cell(0, -1, 0));
        Checks.due("cells", x.count(3), 12);
    }

    private static void delays() {
        CellMapping x = new CellMapping();
        x.cell(1, 1, 1);
        x.cell(3, 128, 1);
        Checks.due("it is 0 at first", x.delay(1, 2, 0), false);
        Checks.due("another one", x.delay(1, 2, 1000), true);
        Checks.due("the same one", x.delay(1, 2, 1000), false);
        Checks.due("another pin", x.delay(1, 1, 1000), true);
        Checks.due("another cell", x.delay(0, 0, 1000), true);
        Checks.due("back again", x.delay(1, 2, 0), true);
        Checks.noIndex("cell below 0", () -> x.delay(-1, 0, 0));
        Checks.noIndex("cell 2", () -> x.delay(2, 0, 0));
        Checks.noIndex("pin below 0", () -> x.delay(0, -1, 0));
        Checks.noIndex("pin 1 of one", () -> x.delay(0, 1, 0));
        Checks.noIndex("pin 3 of three", () -> x.delay(1, 3, 0));
        Checks.outOfRange("d below 0", () -> x.delay(0, 0, -1));
        Checks.outOfRange("d 1001", () -> x.delay(0, 0, 1001));
        Checks.noIndex("no pin comes before the range", () -> x.delay(0, 1, 1001));
        Checks.noIndex("no cell comes before the range", () -> x.delay(2, 0, -1));
        Checks.due("what threw changed nothing", x.delay(0, 0, 1000), false);
        x.cell(1, 2, 1);
        Checks.due("a new cell's delay is 0", x.delay(2, 0, 0), false);
        x.input();
        Checks.due("a delay counts", x.arrival(1), 1000);
        x.delay(0, 0, 30);
        Checks.due("a new delay counts at once", x.arrival(1), 30);
    }

    private static void inputTimes() {
        CellMapping x = new CellMapping();
        x.input();
        x.and(0, 0);
        x.input();
        Checks.due("it is 0 at first", x.arrives(1, 0), false);
        Checks.due("another time", x.arrives(1, 1000), true);
        Checks.due("the same time", x.arrives(1, 1000), false);
        Checks.due("input 1 is literal 4", x.arrival(4), 1000);
        Checks.due("input 0 is as before", x.arrival(0), 0);
        Checks.due("earlier", x.arrives(1, 999), true);
        Checks.due("it counts at once", x.arrival(4), 999);
        Checks.noIndex("input -1", () -> x.arrives(-1, 0));
        Checks.noIndex("input 2, though there is node 2", () -> x.arrives(2, 0));
        Checks.outOfRange("time below 0", () -> x.arrives(0, -1));
        Checks.outOfRange("time 1001", () -> x.arrives(0, 1001));
        Checks.noIndex("no input comes before the range", () -> x.arrives(2, -1));
        Checks.due("what threw changed nothing", x.arrives(0, 0), false);
    }
}
