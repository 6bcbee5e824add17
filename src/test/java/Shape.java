/** How many inputs, ANDs, outputs and cells an object has, and always the same calls that make such an object. */
final class Shape {
    private static final int[] PINS = {1, 2, 3, 2, 1, 3, 2, 3, 1, 1, 2, 2};
    private static final int[] TRUTHS = {1, 8, 0xCA, 6, 2, 128, 7, 0xE8, 3, 0, 14, 9};

    final int inputs;
    final int ands;
    final int outputs;
    final int cells;

    Shape(int inputs, int ands, int outputs, int cells) {
        this.inputs = inputs;
        this.ands = ands;
        this.outputs = outputs;
        this.cells = cells;
    }

    CellMapping make() {
        CellMapping x = new CellMapping();
        fill(x);
        return x;
    }

    void fill(CellMapping x) {
        // The last input comes behind the ANDs, so that inputs and nodes have different numbers.
        for (int k = 0; k < inputs - 1 || k == 0 && inputs == 1; k++) {
            x.input();
        }
        for (int k = 0; k < ands; k++) {
            int literals = 2 * x.count(0);
            x.and(literals - 1 - k % 3 % literals, 7 * k % literals);
        }
        if (inputs > 1) {
            x.input();
        }
        for (int k = 0; k < inputs; k++) {
            x.arrives(k, timeOf(k));
        }
        for (int k = 0; k < cells; k++) {
            x.cell(PINS[k], TRUTHS[k], 100 + k);
            for (int pin = 0; pin < PINS[k]; pin++) {
                x.delay(k, pin, delayOf(k, pin));
            }
        }
        for (int k = 0; k < outputs; k++) {
            x.output(literals() - 1 - k % literals());
        }
    }

    int literals() {
        return 2 * nodes();
    }

    int nodes() {
        return inputs + ands;
    }

    int pinsOf(int cell) {
        return PINS[cell];
    }

    static int timeOf(int input) {
        return 3 + input;
    }

    static int delayOf(int cell, int pin) {
        return 20 + 3 * cell + pin;
    }

    String name() {
        return inputs + " inputs, " + ands + " ands, " + outputs + " outputs, " + cells + " cells";
    }
}
