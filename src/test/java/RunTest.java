/** Promises 13 to 16: what the outputs want, its area, and the worst output. */
public final class RunTest {
    public static void main(String[] args) {
        plainInputs();
        sharedGates();
        bothPhases();
        notArriving();
        changesCountAtOnce();
        wrongInputs();
        Checks.end();
    }

    private static void dueRun(String name, CellMapping x, int worst, int area, int... wanted) {
        // Asked before and after run(): wanted gates are those of the graph as it is.
        for (int round = 0; round < 2; round++) {
            for (int k = 0; k < wanted.length; k++) {
                Checks.due(name + " wanted " + k, x.wanted(k), wanted[k]);
            }
            Checks.due(name + " wanted no more", x.wanted(wanted.length), -1);
            Checks.due(name + " wanted greatest", x.wanted(Integer.MAX_VALUE), -1);
            Checks.due(name + " area", x.area(), area);
            Checks.due(name + " worst", x.worst(), worst);
            Checks.due(name + " run", x.run(), wanted.length);
        }
    }

    private static void dueNone(String name, CellMapping x, int output) {
        Checks.due(name + " run", x.run(), -1 - output);
        Checks.due(name + " wanted", x.wanted(0), -1);
        Checks.due(name + " area", x.area(), 0);
        Checks.due(name + " worst", x.worst(), -1);
    }

    private static CellMapping small() {
        CellMapping x = new CellMapping();
        x.input();
        x.input();
        x.input();
        x.and(0, 2);
        x.and(6, 5);
        x.cell(1, 1, 1000);
        x.cell(2, 8, 20);
        return x;
    }

    private static void plainInputs() {
        CellMapping x = small();
        dueRun("no output", x, 0, 0);
        x.output(0);
        dueRun("an input", x, 0, 0);
        x.arrives(0, 77);
        x.output(0);
        dueRun("it arrives", x, 77, 0);
        x.output(1);
        x.delay(0, 0, 3);
        dueRun("turned", x, 80, 1000, 1);
    }

    private static void sharedGates() {
        CellMapping x = small();
        x.output(8);
        dueRun("a chain", x, 0, 1040, 5, 6, 8);
        x.output(6);
        x.output(8);
        dueRun("what is wanted twice counts once", x, 0, 1040, 5, 6, 8);
        x.output(9);
        x.output(5);
        dueRun("turned behind", x, 0, 2040, 5, 6, 8, 9);
        x.and(8, 8);
        dueRun("what no output wants does not count", x, 0, 2040, 5, 6, 8, 9);
        x.delay(1, 0, 4);
        x.delay(1, 1, 6);
        dueRun("the worst of all outputs", x, 10, 2040, 5, 6, 8, 9);
    }

    private static void bothPhases() {
        CellMapping x = new CellMapping();
        x.input();
        x.input();
        x.and(0, 2);
        x.cell(1, 1, 1);
        x.cell(2, 7, 20);
        x.output(4);
        dueRun("the plain one by the turned one", x, 0, 21, 4, 5);
        x.output(5);
        dueRun("both", x, 0, 21, 4, 5);
        x.cell(2, 8, 300);
        dueRun("each by its own cell", x, 0, 320, 4, 5);
        x.delay(1, 0, 9);
        dueRun("the turned one by the plain one", x, 0, 301, 4, 5);
        x.clear();
        dueRun("cleared", x, 0, 0);
    }

    private static void notArriving() {
        CellMapping x = new CellMapping();
        x.input();
        x.input();
        x.cell(2, 8, 5);
        x.and(0, 2);
        x.and(0, 3);
        x.output(4);
        dueRun("the first arrives", x, 0, 5, 4);
        x.output(6);
        dueNone("output 1 does not", x, 1);
        x.output(1);
        dueNone("output 2 neither", x, 1);
        x.cell(2, 2, 30);
        dueNone("output 2 does not", x, 2);
        x.cell(1, 1, 100);
        dueRun("all arrive", x, 0, 210, 1, 3, 4, 6);
        x.delay(2, 0, 1);
        dueRun("a turned input is too late for the and", x, 1, 135, 1, 4, 6);
    }

    private static void changesCountAtOnce() {
        CellMapping x = small();
        x.output(6);
        dueRun("one gate", x, 0, 20, 6);
        x.output(7);
        dueRun("an output more", x, 0, 1020, 6, 7);
        x.cell(2, 7, 50);
        dueRun("a cell more", x, 0, 70, 6, 7);
        x.delay(2, 0, 500);
        dueRun("a delay", x, 0, 1020, 6, 7);
        x.arrives(2, 900);
        dueRun("an input that does not count", x, 0, 1020, 6, 7);
        x.output(4);
        dueRun("an output that is an input", x, 900, 1020, 6, 7);
    }

    private static void wrongInputs() {
        CellMapping x = small();
        Checks.noIndex("wanted -1", () -> x.wanted(-1));
        Checks.noIndex("wanted least", () -> x.wanted(Integer.MIN_VALUE));
        x.output(9);
        x.clear();
        Checks.noIndex("wanted -1 of nothing", () -> x.wanted(-1));
    }
}
