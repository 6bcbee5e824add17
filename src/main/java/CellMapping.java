import java.util.Arrays;

/** A graph of and-gates put into cells, each literal as early as it can be; DOC.md says what each call answers. */
public final class CellMapping {
    public static final int NONE = -1;

    private static final int MAX_OUTPUTS = 6;
    private static final int MAX_NUMBER = 1000;

    private final Graph graph;
    private final CutTable cutTable;
    private final Shelf shelf;
    private final Gates gates;
    private final int[] outputLiterals;
    private int outputCount;

    public CellMapping() {
        graph = new Graph();
        cutTable = new CutTable(graph);
        shelf = new Shelf();
        gates = new Gates(graph, cutTable, shelf);
        outputLiterals = new int[MAX_OUTPUTS];
        outputCount = 0;
    }

    public int input() throws IllegalStateException {
        if (graph.inputCount >= Graph.MAX_INPUTS) {
            throw new IllegalStateException();
        }
        int node = graph.addInput();
        cutTable.addNode(node);
        return 2 * node;
    }

    public int and(int a, int b) throws IndexOutOfBoundsException, IllegalStateException {
        requireLiteral(a);
        requireLiteral(b);
        if (graph.nodeCount - graph.inputCount >= Graph.MAX_ANDS) {
            throw new IllegalStateException();
        }
        int node = graph.addAnd(a, b);
        cutTable.addNode(node);
        return 2 * node;
    }

    public int output(int literal) throws IndexOutOfBoundsException, IllegalStateException {
        requireLiteral(literal);
        if (outputCount >= MAX_OUTPUTS) {
            throw new IllegalStateException();
        }
        outputLiterals[outputCount] = literal;
        outputCount++;
        return outputCount - 1;
    }

    public int cell(int pins, int truth, int area) throws IllegalStateException, IllegalArgumentException {
        if (shelf.cellCount >= Shelf.MAX_CELLS) {
            throw new IllegalStateException();
        }
        requireRange(pins, 1, Shelf.MAX_PINS);
        requireRange(truth, 0, Tables.full(pins));
        requireRange(area, 1, MAX_NUMBER);
        gates.forget();
        return shelf.add(pins, truth, area);
    }

    public boolean delay(int cell, int pin, int d) throws IndexOutOfBoundsException, IllegalArgumentException {
        requireIndex(cell, shelf.cellCount);
        requireIndex(pin, shelf.pins[cell]);
        requireRange(d, 0, MAX_NUMBER);
        if (shelf.delayAt(cell, pin) == d) {
            return false;
        }
        shelf.setDelay(cell, pin, d);
        gates.forget();
        return true;
    }

    public boolean arrives(int k, int t) throws IndexOutOfBoundsException, IllegalArgumentException {
        requireIndex(k, graph.inputCount);
        requireRange(t, 0, MAX_NUMBER);
        if (graph.inputTime[k] == t) {
            return false;
        }
        graph.inputTime[k] = t;
        gates.forget();
        return true;
    }

    public int cuts(int node) throws IndexOutOfBoundsException {
        requireIndex(node, graph.nodeCount);
        return cutTable.size(node);
    }

    public long cut(int node, int k) throws IndexOutOfBoundsException {
        requireCutIndex(node, k);
        return k < cutTable.size(node) ? cutTable.leavesAt(node, k) : NONE;
    }

    public int function(int node, int k) throws IndexOutOfBoundsException {
        requireCutIndex(node, k);
        return k < cutTable.size(node) ? cutTable.functionAt(node, k) : NONE;
    }

    public int arrival(int literal) throws IndexOutOfBoundsException {
        requireLiteral(literal);
        gates.settle();
        return gates.timeOf(literal);
    }

    public int gate(int literal, int what) throws IndexOutOfBoundsException {
        requireLiteral(literal);
        requireIndex(what, 1 + Shelf.MAX_PINS);
        gates.settle();
        if (!gates.hasGate(literal)) {
            return NONE;
        }
        int cell = gates.cellOf(literal);
        if (what == 0) {
            return cell;
        }
        return what <= shelf.pins[cell] ? gates.pinLiteral(literal, what - 1) : NONE;
    }

    public int run() {
        gates.settle();
        int missing = firstOutputNotArriving();
        return missing == NONE ? Long.bitCount(wantedLiterals()) : -1 - missing;
    }

    public int wanted(int k) throws IndexOutOfBoundsException {
        if (k < 0) {
            throw new IndexOutOfBoundsException();
        }
        gates.settle();
        long wantedOnes = wantedLiterals();
        int before = 0;
        for (int literal = 0; literal < 2 * graph.nodeCount; literal++) {
            if ((wantedOnes >>> literal & 1) == 1) {
                if (before == k) {
                    return literal;
                }
                before++;
            }
        }
        return NONE;
    }

    public int area() {
        gates.settle();
        long wantedOnes = wantedLiterals();
        int sum = 0;
        for (int literal = 0; literal < 2 * graph.nodeCount; literal++) {
            if ((wantedOnes >>> literal & 1) == 1) {
                sum += shelf.areas[gates.cellOf(literal)];
            }
        }
        return sum;
    }

    public int worst() {
        gates.settle();
        if (firstOutputNotArriving() != NONE) {
            return NONE;
        }
        int latest = 0;
        for (int k = 0; k < outputCount; k++) {
            latest = Math.max(latest, gates.timeOf(outputLiterals[k]));
        }
        return latest;
    }

    public int value(int literal, int assignment) throws IndexOutOfBoundsException {
        requireLiteral(literal);
        return graph.evaluate(literal, assignment);
    }

    public int mapped(int literal, int assignment) throws IndexOutOfBoundsException {
        requireLiteral(literal);
        gates.settle();
        return gates.isThere(literal) ? gates.evaluate(literal, assignment) : NONE;
    }

    public int count(int what) throws IndexOutOfBoundsException {
        switch (what) {
            case 0:
                return graph.nodeCount;
            case 1:
                return graph.inputCount;
            case 2:
                return outputCount;
            case 3:
                return shelf.cellCount;
            default:
                throw new IndexOutOfBoundsException();
        }
    }

    public void clear() {
        graph.empty();
        shelf.empty();
        gates.forget();
        outputCount = 0;
    }

    private int firstOutputNotArriving() {
        for (int k = 0; k < outputCount; k++) {
            if (!gates.isThere(outputLiterals[k])) {
                return k;
            }
        }
        return NONE;
    }

    /** Bit l: the gate of literal l is wanted. It is found anew each time, so that it never lags behind a change. */
    private long wantedLiterals() {
        if (firstOutputNotArriving() != NONE) {
            return 0;
        }
        long asked = 0;
        for (int k = 0; k < outputCount; k++) {
            asked |= 1L << outputLiterals[k];
        }
        return gates.wantedFor(asked);
    }

    private void requireLiteral(int literal) {
        requireIndex(literal, 2 * graph.nodeCount);
    }

    private void requireCutIndex(int node, int k) {
        requireIndex(node, graph.nodeCount);
        if (k < 0) {
            throw new IndexOutOfBoundsException();
        }
    }

    private static void requireIndex(int index, int size) {
        if (index < 0 || index >= size) {
            throw new IndexOutOfBoundsException();
        }
    }

    private static void requireRange(int number, int least, int greatest) {
        if (number < least || number > greatest) {
            throw new IllegalArgumentException();
        }
    }

    /** Truth tables as bits: bit v is what comes when variable i is bit i of v. */
    private static final class Tables {
        private static final int[] VARIABLE = {0xAA, 0xCC, 0xF0};

        /** The table that is always 1, and so the greatest one. */
        static int full(int variables) {
            return (1 << (1 << variables)) - 1;
        }

        static int variable(int i, int full) {
            return VARIABLE[i] & full;
        }
    }

    /** The nodes in the order in which they came, so that an AND's literals are always of lesser nodes. */
    private static final class Graph {
        static final int MAX_INPUTS = 8;
        static final int MAX_ANDS = 24;
        static final int MAX_NODES = MAX_INPUTS + MAX_ANDS;

        /** The input's number for an input, NONE for an AND. */
        final int[] inputNumber = new int[MAX_NODES];
        final int[] left = new int[MAX_NODES];
        final int[] right = new int[MAX_NODES];
        final int[] inputTime = new int[MAX_INPUTS];
        int nodeCount;
        int inputCount;

        void empty() {
            nodeCount = 0;
            inputCount = 0;
        }

        int addInput() {
            inputNumber[nodeCount] = inputCount;
            inputTime[inputCount] = 0;
            inputCount++;
            nodeCount++;
            return nodeCount - 1;
        }

        int addAnd(int a, int b) {
            inputNumber[nodeCount] = NONE;
            left[nodeCount] = a;
            right[nodeCount] = b;
            nodeCount++;
            return nodeCount - 1;
        }

        boolean isInput(int node) {
            return inputNumber[node] != NONE;
        }

        boolean isPlainInput(int literal) {
            return (literal & 1) == 0 && isInput(literal >> 1);
        }

        int inputValue(int node, int assignment) {
            return assignment >>> inputNumber[node] & 1;
        }

        int evaluate(int literal, int assignment) {
            int values = 0;
            for (int node = 0; node <= literal >> 1; node++) {
                int bit = isInput(node)
                        ? inputValue(node, assignment)
                        : read(values, left[node]) & read(values, right[node]);
                values |= bit << node;
            }
            return read(values, literal);
        }

        private static int read(int values, int literal) {
            return (values >>> (literal >> 1) ^ literal) & 1;
        }
    }

    /** The cuts of all nodes, one node's behind the other's: they never change once their node is there. */
    private static final class CutTable {
        private static final int MAX_LEAVES = 3;
        private static final int FIRST_ROOM = 128;

        private final Graph graph;
        /** A node's cuts stand from start[node] to before start[node + 1]. */
        private final int[] start = new int[Graph.MAX_NODES + 1];
        private final int[] tables = new int[Graph.MAX_NODES];
        /** Bits of nodes: a leaf is less than its AND, so bit 31 is never set and numbers are in the order of bits. */
        private int[] leaves = new int[FIRST_ROOM];
        private int[] functions = new int[FIRST_ROOM];

        CutTable(Graph graph) {
            this.graph = graph;
        }

        int size(int node) {
            return start[node + 1] - start[node];
        }

        int leavesAt(int node, int k) {
            return leaves[start[node] + k];
        }

        int functionAt(int node, int k) {
            return functions[start[node] + k];
        }

        void addNode(int node) {
            start[node + 1] = start[node];
            if (graph.isInput(node)) {
                return;
            }
            findCuts(node, graph.left[node] >> 1, graph.right[node] >> 1);
            for (int i = start[node]; i < start[node + 1]; i++) {
                functions[i] = functionOf(node, leaves[i]);
            }
        }

        /**
         * Each cut is one of the left node, or that node itself, together with one of the right node, or itself.
         * None comes twice: from each leaf of a smallest cut a way goes down that meets no other leaf, so the leaves
         * that the ways from one of the two nodes meet first must all be in its part, and are that part alone.
         */
        private void findCuts(int node, int leftNode, int rightNode) {
            for (int i = 0; i <= size(leftNode); i++) {
                for (int j = 0; j <= size(rightNode); j++) {
                    int candidate = cutOrItself(leftNode, i) | cutOrItself(rightNode, j);
                    if (Integer.bitCount(candidate) <= MAX_LEAVES && isSmallest(node, candidate)) {
                        insertCut(node, candidate);
                    }
                }
            }
        }

        private int cutOrItself(int node, int i) {
            return i < size(node) ? leavesAt(node, i) : 1 << node;
        }

        /** Whether a set that is met on all ways is not so without any one of its nodes: then no part of it is. */
        private boolean isSmallest(int node, int candidate) {
            for (int n = 0; n < node; n++) {
                if ((candidate >>> n & 1) == 1 && isMet(node, candidate ^ 1 << n)) {
                    return false;
                }
            }
            return true;
        }

        /** Whether each way from the node down to an input meets the set. */
        private boolean isMet(int node, int set) {
            int reached = 1 << node;
            for (int n = node; n >= 0; n--) {
                if (((reached & ~set) >>> n & 1) == 1) {
                    if (graph.isInput(n)) {
                        return false;
                    }
                    reached |= 1 << (graph.left[n] >> 1) | 1 << (graph.right[n] >> 1);
                }
            }
            return true;
        }

        private void insertCut(int node, int candidate) {
            int end = start[node + 1];
            if (end >= leaves.length) {
                leaves = Arrays.copyOf(leaves, 2 * end);
                functions = Arrays.copyOf(functions, 2 * end);
            }
            int place = end;
            while (place > start[node] && leaves[place - 1] > candidate) {
                leaves[place] = leaves[place - 1];
                place--;
            }
            leaves[place] = candidate;
            start[node + 1] = end + 1;
        }

        private int functionOf(int node, int cutLeaves) {
            int full = Tables.full(Integer.bitCount(cutLeaves));
            int leavesBefore = 0;
            for (int n = 0; n <= node; n++) {
                if ((cutLeaves >>> n & 1) == 1) {
                    tables[n] = Tables.variable(leavesBefore, full);
                    leavesBefore++;
                } else if (graph.isInput(n)) {
                    // Every way from the AND to this input meets a leaf, so what stands here is never seen.
                    tables[n] = 0;
                } else {
                    tables[n] = literalTable(graph.left[n], full) & literalTable(graph.right[n], full);
                }
            }
            return tables[node];
        }

        private int literalTable(int literal, int full) {
            return (literal & 1) == 0 ? tables[literal >> 1] : tables[literal >> 1] ^ full;
        }
    }

    /**
     * The cells. An ARRANGEMENT of a cell says which leaf of a cut is at each pin and whether it is turned there;
     * what comes by each of them is worked out once, when the cell is new.
     */
    private static final class Shelf {
        static final int MAX_CELLS = 12;
        static final int MAX_PINS = 3;

        private static final int MAX_ARRANGEMENTS = 48;
        private static final int INVERTER = 1;
        /** By pins: how many orders of as many leaves there are. */
        private static final int[] ORDER_COUNT = {0, 1, 2, 6};
        /** Three numbers an order: the leaf at each pin. The first ones serve cells of fewer pins too. */
        private static final int[] ORDERS = {0, 1, 2, 1, 0, 2, 0, 2, 1, 2, 0, 1, 1, 2, 0, 2, 1, 0};

        final int[] pins = new int[MAX_CELLS];
        final int[] truths = new int[MAX_CELLS];
        final int[] areas = new int[MAX_CELLS];
        private final int[] delays = new int[MAX_CELLS * MAX_PINS];
        private final int[] arranged = new int[MAX_CELLS * MAX_ARRANGEMENTS];
        int cellCount;

        void empty() {
            cellCount = 0;
        }

        int add(int pinCount, int truth, int area) {
            int cell = cellCount;
            cellCount++;
            pins[cell] = pinCount;
            truths[cell] = truth;
            areas[cell] = area;
            for (int pin = 0; pin < MAX_PINS; pin++) {
                setDelay(cell, pin, 0);
            }
            for (int i = 0; i < arrangementCount(cell); i++) {
                arranged[cell * MAX_ARRANGEMENTS + i] = arrange(cell, i);
            }
            return cell;
        }

        int delayAt(int cell, int pin) {
            return delays[cell * MAX_PINS + pin];
        }

        void setDelay(int cell, int pin, int d) {
            delays[cell * MAX_PINS + pin] = d;
        }

        boolean isInverter(int cell) {
            return pins[cell] == 1 && truths[cell] == INVERTER;
        }

        int arrangementCount(int cell) {
            return ORDER_COUNT[pins[cell]] << pins[cell];
        }

        int leafAt(int cell, int arrangement, int pin) {
            return ORDERS[(arrangement >> pins[cell]) * MAX_PINS + pin];
        }

        /** 1 if the leaf is turned at that pin. */
        int turnAt(int arrangement, int pin) {
            return arrangement >> pin & 1;
        }

        /** What comes by the values of the leaves. */
        int arrangedTruth(int cell, int arrangement) {
            return arranged[cell * MAX_ARRANGEMENTS + arrangement];
        }

        private int arrange(int cell, int arrangement) {
            int table = 0;
            for (int v = 0; v < 1 << pins[cell]; v++) {
                int pinValues = 0;
                for (int pin = 0; pin < pins[cell]; pin++) {
                    int leafValue = v >> leafAt(cell, arrangement, pin) & 1;
                    pinValues |= (leafValue ^ turnAt(arrangement, pin)) << pin;
                }
                table |= (truths[cell] >> pinValues & 1) << v;
            }
            return table;
        }
    }

    /**
     * The gate of each literal, as one number. From the highest bits down: its arrival, whether it is by (2), its
     * cell, the literals at pins 0, 1 and 2. So the least number is the gate that the document asks for.
     */
    private static final class Gates {
        /** Greater than any gate's number. */
        private static final long NOT_THERE = 1L << 62;
        private static final int LITERAL_BITS = 6;
        private static final int LITERAL_MASK = 63;
        private static final int CELL_SHIFT = 18;
        private static final int CELL_MASK = 15;
        private static final int TURN_SHIFT = 22;
        private static final int TIME_SHIFT = 23;

        private final Graph graph;
        private final CutTable cutTable;
        private final Shelf shelf;
        private final long[] gates = new long[2 * Graph.MAX_NODES];
        private final int[] leafNodes = new int[Shelf.MAX_PINS];
        /** Nodes below this one have their gates; a new node leaves those before it as they are. */
        private int settled;

        Gates(Graph graph, CutTable cutTable, Shelf shelf) {
            this.graph = graph;
            this.cutTable = cutTable;
            this.shelf = shelf;
        }

        void forget() {
            settled = 0;
        }

        void settle() {
            for (int node = settled; node < graph.nodeCount; node++) {
                settleNode(node);
            }
            settled = graph.nodeCount;
        }

        boolean isThere(int literal) {
            return gates[literal] != NOT_THERE;
        }

        boolean hasGate(int literal) {
            return isThere(literal) && !graph.isPlainInput(literal);
        }

        int timeOf(int literal) {
            return gates[literal] != NOT_THERE ? (int) (gates[literal] >> TIME_SHIFT) : NONE;
        }

        int cellOf(int literal) {
            return (int) (gates[literal] >> CELL_SHIFT) & CELL_MASK;
        }

        int pinLiteral(int literal, int pin) {
            return (int) (gates[literal] >> pinShift(pin)) & LITERAL_MASK;
        }

        /** All literals whose gates are wanted when those of the asked ones are; bit l: literal l. */
        long wantedFor(long asked) {
            long wantedOnes = asked;
            for (int node = graph.nodeCount - 1; node >= 0; node--) {
                int base = baseLiteral(node);
                wantedOnes = withPins(wantedOnes, base ^ 1);
                wantedOnes = withPins(wantedOnes, base);
            }
            return wantedOnes;
        }

        int evaluate(int literal, int assignment) {
            long values = 0;
            for (int node = 0; node <= literal >> 1; node++) {
                int base = baseLiteral(node);
                values |= (long) gateValue(values, base, assignment) << base;
                values |= (long) gateValue(values, base ^ 1, assignment) << (base ^ 1);
            }
            return (int) (values >>> literal & 1);
        }

        private static int pinShift(int pin) {
            return (Shelf.MAX_PINS - 1 - pin) * LITERAL_BITS;
        }

        /** The literal of a node that is not by (2): the other one may be by it, but never both. */
        private int baseLiteral(int node) {
            int plain = 2 * node;
            boolean turned = hasGate(plain) && (gates[plain] >> TURN_SHIFT & 1) == 1;
            return turned ? plain + 1 : plain;
        }

        /** The same literals, and those at the pins of this one if it is wanted; a plain input has no gate to want. */
        private long withPins(long wantedOnes, int literal) {
            if ((wantedOnes >>> literal & 1) == 0) {
                return wantedOnes;
            }
            if (!hasGate(literal)) {
                return wantedOnes & ~(1L << literal);
            }
            long more = wantedOnes;
            for (int pin = 0; pin < shelf.pins[cellOf(literal)]; pin++) {
                more |= 1L << pinLiteral(literal, pin);
            }
            return more;
        }

        private int gateValue(long values, int literal, int assignment) {
            if (graph.isPlainInput(literal)) {
                return graph.inputValue(literal >> 1, assignment);
            }
            if (!isThere(literal)) {
                return 0;
            }
            int cell = cellOf(literal);
            int pinValues = 0;
            for (int pin = 0; pin < shelf.pins[cell]; pin++) {
                pinValues |= (int) (values >>> pinLiteral(literal, pin) & 1) << pin;
            }
            return shelf.truths[cell] >> pinValues & 1;
        }

        private void settleNode(int node) {
            int plain = 2 * node;
            gates[plain] = NOT_THERE;
            gates[plain + 1] = NOT_THERE;
            if (graph.isInput(node)) {
                gates[plain] = (long) graph.inputTime[graph.inputNumber[node]] << TIME_SHIFT;
            } else {
                for (int k = 0; k < cutTable.size(node); k++) {
                    fitCut(node, cutTable.leavesAt(node, k), cutTable.functionAt(node, k));
                }
            }
            // Both times are taken before either literal is turned: what is by (2) itself is not turned again.
            int plainTime = timeOf(plain);
            int turnedTime = timeOf(plain + 1);
            fitInverters(plain, turnedTime);
            fitInverters(plain + 1, plainTime);
        }

        private void fitInverters(int literal, int pinTime) {
            if (pinTime == NONE) {
                return;
            }
            for (int cell = 0; cell < shelf.cellCount; cell++) {
                if (shelf.isInverter(cell)) {
                    long atPin = (long) (literal ^ 1) << pinShift(0);
                    offer(literal, pinTime + shelf.delayAt(cell, 0), 1L << TURN_SHIFT | atPin, cell);
                }
            }
        }

        private void fitCut(int node, int leaves, int function) {
            int leafCount = 0;
            for (int n = 0; n < node; n++) {
                if ((leaves >>> n & 1) == 1) {
                    leafNodes[leafCount] = n;
                    leafCount++;
                }
            }
            int full = Tables.full(leafCount);
            for (int cell = 0; cell < shelf.cellCount; cell++) {
                if (shelf.pins[cell] == leafCount) {
                    fitCell(2 * node, cell, function);
                    fitCell(2 * node + 1, cell, function ^ full);
                }
            }
        }

        private void fitCell(int literal, int cell, int function) {
            // Moves and turns of pins leave the number of ones in a table as it is: most cells end here.
            if (Integer.bitCount(shelf.truths[cell]) != Integer.bitCount(function)) {
                return;
            }
            for (int i = 0; i < shelf.arrangementCount(cell); i++) {
                if (shelf.arrangedTruth(cell, i) == function) {
                    fitArrangement(literal, cell, i);
                }
            }
        }

        private void fitArrangement(int literal, int cell, int arrangement) {
            int time = 0;
            long atPins = 0;
            for (int pin = 0; pin < shelf.pins[cell]; pin++) {
                int leaf = leafNodes[shelf.leafAt(cell, arrangement, pin)];
                int pinLiteral = 2 * leaf + shelf.turnAt(arrangement, pin);
                int pinTime = timeOf(pinLiteral);
                if (pinTime == NONE) {
                    return;
                }
                time = Math.max(time, pinTime + shelf.delayAt(cell, pin));
                atPins |= (long) pinLiteral << pinShift(pin);
            }
            offer(literal, time, atPins, cell);
        }

        private void offer(int literal, int time, long kindAndPins, int cell) {
            long gate = (long) time << TIME_SHIFT | (long) cell << CELL_SHIFT | kindAndPins;
            if (gate < gates[literal]) {
                gates[literal] = gate;
            }
        }
    }
}
