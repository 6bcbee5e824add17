import java.util.ArrayList;
import java.util.Arrays;
import java.util.HashMap;
import java.util.List;
import java.util.Map;
import java.util.TreeSet;

/** The document word for word and slowly: every set of nodes, every literal at every pin. Only cuts are kept. */
final class Model {
    private final List<int[]> nodes = new ArrayList<>();
    private final List<Integer> inputs = new ArrayList<>();
    private final List<Integer> times = new ArrayList<>();
    private final List<Integer> outputs = new ArrayList<>();
    private final List<int[]> cells = new ArrayList<>();
    private final Map<Integer, List<Long>> knownCuts = new HashMap<>();
    private final Map<Long, Integer> knownFunctions = new HashMap<>();

    int input() {
        check(inputs.size() < 8, new IllegalStateException());
        inputs.add(nodes.size());
        times.add(0);
        nodes.add(null);
        return 2 * nodes.size() - 2;
    }

    int and(int a, int b) {
        checkLiteral(a);
        checkLiteral(b);
        check(nodes.size() - inputs.size() < 24, new IllegalStateException());
        nodes.add(new int[] {a, b});
        return 2 * nodes.size() - 2;
    }

    int output(int literal) {
        checkLiteral(literal);
        check(outputs.size() < 6, new IllegalStateException());
        outputs.add(literal);
        return outputs.size() - 1;
    }

    int cell(int pins, int truth, int area) {
        check(cells.size() < 12, new IllegalStateException());
        check(pins >= 1 && pins <= 3, new IllegalArgumentException());
        check(truth >= 0 && truth < new int[] {0, 4, 16, 256}[pins], new IllegalArgumentException());
        check(area >= 1 && area <= 1000, new IllegalArgumentException());
        cells.add(new int[] {pins, truth, area, 0, 0, 0});
        return cells.size() - 1;
    }

    int delay(int cell, int pin, int d) {
        checkIndex(cell, cells.size());
        checkIndex(pin, cells.get(cell)[0]);
        check(d >= 0 && d <= 1000, new IllegalArgumentException());
        boolean other = cells.get(cell)[3 + pin] != d;
        cells.get(cell)[3 + pin] = d;
        return other ? 1 : 0;
    }

    int arrives(int k, int t) {
        checkIndex(k, inputs.size());
        check(t >= 0 && t <= 1000, new IllegalArgumentException());
        boolean other = times.set(k, t) != t;
        return other ? 1 : 0;
    }

    int cuts(int node) {
        checkIndex(node, nodes.size());
        return cutsOf(node).size();
    }

    long cut(int node, int k) {
        checkIndex(node, nodes.size());
        check(k >= 0, new IndexOutOfBoundsException());
        List<Long> all = cutsOf(node);
        return k < all.size() ? all.get(k) : -1;
    }

    int function(int node, int k) {
        checkIndex(node, nodes.size());
        check(k >= 0, new IndexOutOfBoundsException());
        List<Long> all = cutsOf(node);
        return k < all.size() ? functionOf(node, all.get(k)) : -1;
    }

    int arrival(int literal) {
        checkLiteral(literal);
        int[] gate = allGates()[literal];
        return gate == null ? -1 : gate[0];
    }

    int gate(int literal, int what) {
        checkLiteral(literal);
        checkIndex(what, 4);
        int[] gate = allGates()[literal];
        return gate == null ? -1 : gate[2 + what];
    }

    int run() {
        int[][] gates = allGates();
        for (int k = 0; k < outputs.size(); k++) {
            if (gates[outputs.get(k)] == null) {
                return -1 - k;
            }
        }
        return wantedOnes().size();
    }

    int wanted(int k) {
        check(k >= 0, new IndexOutOfBoundsException());
        List<Integer> all = new ArrayList<>(wantedOnes());
        return k < all.size() ? all.get(k) : -1;
    }

    int area() {
        int[][] gates = allGates();
        int sum = 0;
        for (int literal : wantedOnes()) {
            sum += cells.get(gates[literal][2])[2];
        }
        return sum;
    }

    int worst() {
        int[][] gates = allGates();
        int worst = 0;
        for (int literal : outputs) {
            if (gates[literal] == null) {
                return -1;
            }
            worst = Math.max(worst, gates[literal][0]);
        }
        return worst;
    }

    int value(int literal, int assignment) {
        checkLiteral(literal);
        int[] values = new int[nodes.size()];
        for (int n = 0; n < nodes.size(); n++) {
            int[] node = nodes.get(n);
            values[n] = node == null
                    ? assignment >> inputs.indexOf(n) & 1
                    : (values[node[0] / 2] ^ node[0] % 2) & (values[node[1] / 2] ^ node[1] % 2);
        }
        return values[literal / 2] ^ literal % 2;
    }

    int mapped(int literal, int assignment) {
        checkLiteral(literal);
        return mappedBy(allGates(), literal, assignment, new Integer[2 * nodes.size()]);
    }

    int count(int what) {
        checkIndex(what, 4);
        return new int[] {nodes.size(), inputs.size(), outputs.size(), cells.size()}[what];
    }

    void clear() {
        nodes.clear();
        inputs.clear();
        times.clear();
        outputs.clear();
        cells.clear();
        knownCuts.clear();
        knownFunctions.clear();
    }

    private static void check(boolean fine, RuntimeException otherwise) {
        if (!fine) {
            throw otherwise;
        }
    }

    private static void checkIndex(int index, int size) {
        check(index >= 0 && index < size, new IndexOutOfBoundsException());
    }

    private void checkLiteral(int literal) {
        checkIndex(literal, 2 * nodes.size());
    }

    private List<Long> cutsOf(int node) {
        return knownCuts.computeIfAbsent(node, this::findCuts);
    }

    private List<Long> findCuts(int node) {
        TreeSet<Long> found = new TreeSet<>();
        if (nodes.get(node) == null) {
            return new ArrayList<>();
        }
        int n = nodes.size();
        for (int i = 0; i < n; i++) {
            for (int j = i; j < n; j++) {
                for (int k = j; k < n; k++) {
                    long set = 1L << i | 1L << j | 1L << k;
                    if ((set >> node & 1) == 0 && isSmallestCut(node, set)) {
                        found.add(set);
                    }
                }
            }
        }
        return new ArrayList<>(found);
    }

    private boolean isSmallestCut(int node, long set) {
        if (!meetsAll(node, set)) {
            return false;
        }
        for (long part = (set - 1) & set; part != 0; part = (part - 1) & set) {
            if (meetsAll(node, part)) {
                return false;
            }
        }
        return true;
    }

    /** Whether each way from the node down to an input meets the set. */
    private boolean meetsAll(int node, long set) {
        boolean[] reached = new boolean[nodes.size()];
        reached[node] = true;
        for (int n = node; n >= 0; n--) {
            if (!reached[n] || (set >> n & 1) == 1) {
                continue;
            }
            if (nodes.get(n) == null) {
                return false;
            }
            reached[nodes.get(n)[0] / 2] = true;
            reached[nodes.get(n)[1] / 2] = true;
        }
        return true;
    }

    private int functionOf(int node, long set) {
        return knownFunctions.computeIfAbsent((long) node << 32 | set, key -> findFunction(node, set));
    }

    private int findFunction(int node, long set) {
        int table = 0;
        for (int v = 0; v < 1 << Long.bitCount(set); v++) {
            table |= valueByLeaves(node, set, v, new Integer[nodes.size()]) << v;
        }
        return table;
    }

    private int valueByLeaves(int node, long set, int v, Integer[] known) {
        if ((set >> node & 1) == 1) {
            return v >> Long.bitCount(set & ((1L << node) - 1)) & 1;
        }
        if (known[node] == null) {
            int a = nodes.get(node)[0];
            int b = nodes.get(node)[1];
            known[node] = (valueByLeaves(a / 2, set, v, known) ^ a % 2) & (valueByLeaves(b / 2, set, v, known) ^ b % 2);
        }
        return known[node];
    }

    /** By literals: null, or arrival, 0 for (1) and 1 for (2), cell, literals at pins 0 to 2. */
    private int[][] allGates() {
        int[][] gates = new int[2 * nodes.size()][];
        for (int node = 0; node < nodes.size(); node++) {
            int plain = 2 * node;
            if (nodes.get(node) == null) {
                gates[plain] = new int[] {times.get(inputs.indexOf(node)), 0, -1, -1, -1, -1};
            } else {
                gates[plain] = bestFit(gates, plain);
                gates[plain + 1] = bestFit(gates, plain + 1);
            }
            int[] firstPlain = gates[plain];
            int[] firstTurned = gates[plain + 1];
            if (nodes.get(node) != null) {
                gates[plain] = better(firstPlain, bestTurn(firstTurned, plain + 1));
            }
            gates[plain + 1] = better(firstTurned, bestTurn(firstPlain, plain));
        }
        return gates;
    }

    private int[] bestTurn(int[] pinGate, int pinLiteral) {
        int[] best = null;
        for (int c = 0; pinGate != null && c < cells.size(); c++) {
            int[] cell = cells.get(c);
            if (cell[0] == 1 && (cell[1] & 1) == 1 && (cell[1] >> 1 & 1) == 0) {
                best = better(best, new int[] {pinGate[0] + cell[3], 1, c, pinLiteral, -1, -1});
            }
        }
        return best;
    }

    private int[] bestFit(int[][] gates, int literal) {
        int[] best = null;
        for (long set : cutsOf(literal / 2)) {
            int function = functionOf(literal / 2, set);
            for (int c = 0; c < cells.size(); c++) {
                if (cells.get(c)[0] == Long.bitCount(set)) {
                    best = better(best, bestWithPins(gates, literal, set, function, c, new int[0]));
                }
            }
        }
        return best;
    }

    /** The best gate whose first pins have these literals. */
    private int[] bestWithPins(int[][] gates, int literal, long set, int function, int c, int[] pins) {
        if (pins.length == cells.get(c)[0]) {
            return fits(literal, set, function, c, pins) ? gateOf(gates, c, pins) : null;
        }
        int[] best = null;
        for (int at = 0; at < literal / 2 * 2; at++) {
            if ((set >> at / 2 & 1) == 0) {
                continue;
            }
            boolean used = false;
            for (int pin : pins) {
                used |= pin / 2 == at / 2;
            }
            if (!used) {
                int[] more = Arrays.copyOf(pins, pins.length + 1);
                more[pins.length] = at;
                best = better(best, bestWithPins(gates, literal, set, function, c, more));
            }
        }
        return best;
    }

    private boolean fits(int literal, long set, int function, int c, int[] pins) {
        for (int v = 0; v < 1 << pins.length; v++) {
            int atPins = 0;
            for (int i = 0; i < pins.length; i++) {
                int place = Long.bitCount(set & ((1L << pins[i] / 2) - 1));
                atPins |= ((v >> place & 1) ^ pins[i] % 2) << i;
            }
            if ((cells.get(c)[1] >> atPins & 1) != ((function >> v & 1) ^ literal % 2)) {
                return false;
            }
        }
        return true;
    }

    private int[] gateOf(int[][] gates, int c, int[] pins) {
        int[] gate = {0, 0, c, -1, -1, -1};
        for (int i = 0; i < pins.length; i++) {
            if (gates[pins[i]] == null) {
                return null;
            }
            gate[0] = Math.max(gate[0], gates[pins[i]][0] + cells.get(c)[3 + i]);
            gate[3 + i] = pins[i];
        }
        return gate;
    }

    private static int[] better(int[] a, int[] b) {
        if (a == null || b == null) {
            return a == null ? b : a;
        }
        return Arrays.compare(a, b) <= 0 ? a : b;
    }

    private TreeSet<Integer> wantedOnes() {
        int[][] gates = allGates();
        TreeSet<Integer> found = new TreeSet<>();
        for (int literal : outputs) {
            if (gates[literal] == null) {
                return new TreeSet<>();
            }
            want(gates, literal, found);
        }
        return found;
    }

    private void want(int[][] gates, int literal, TreeSet<Integer> found) {
        if (gates[literal][2] == -1 || !found.add(literal)) {
            return;
        }
        for (int pin = 0; pin < 3; pin++) {
            if (gates[literal][3 + pin] != -1) {
                want(gates, gates[literal][3 + pin], found);
            }
        }
    }

    private int mappedBy(int[][] gates, int literal, int assignment, Integer[] known) {
        int[] gate = gates[literal];
        if (gate == null) {
            return -1;
        }
        if (gate[2] == -1) {
            return assignment >> inputs.indexOf(literal / 2) & 1;
        }
        if (known[literal] == null) {
            int atPins = 0;
            for (int pin = 0; pin < 3 && gate[3 + pin] != -1; pin++) {
                atPins |= mappedBy(gates, gate[3 + pin], assignment, known) << pin;
            }
            known[literal] = cells.get(gate[2])[1] >> atPins & 1;
        }
        return known[literal];
    }
}
