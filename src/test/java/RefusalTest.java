import java.util.ArrayList;
import java.util.List;
import java.util.function.Consumer;

/**
 * "Methods throw what their comments name, the one named first when several would do", and "a call that throws changes
 * nothing": every method with numbers in and around its ranges, all of them together, on objects that are empty, have
 * something, or are full. What is refused must be refused by the right exception and leave everything as it was.
 */
public final class RefusalTest {
    private static final Shape[] SHAPES = {
        new Shape(0, 0, 0, 0),
        new Shape(1, 0, 0, 0),
        new Shape(0, 0, 0, 3),
        new Shape(1, 1, 1, 1),
        new Shape(3, 5, 3, 4),
        new Shape(8, 3, 2, 2),
        new Shape(2, 24, 2, 2),
        new Shape(3, 3, 6, 2),
        new Shape(3, 3, 2, 12),
        new Shape(8, 24, 6, 12),
    };
    private static final int LOOKS = 6;
    private static final int[] GREATEST_TRUTH = {0, 3, 15, 255};

    public static void main(String[] args) {
        for (Shape shape : SHAPES) {
            makers(shape);
            cells(shape);
            delays(shape);
            times(shape);
            questionsOfNodes(shape);
            questionsOfLiterals(shape);
            otherQuestions(shape);
        }
        namedFirst();
        manyRefusals();
        Checks.end();
    }

    private static void makers(Shape shape) {
        if (shape.inputs == 8) {
            full(shape, "input()", x -> x.input());
        }
        for (int a : around(0, shape.literals() - 1)) {
            for (int b : around(0, shape.literals() - 1)) {
                String call = "and(" + a + ", " + b + ")";
                if (!isIn(a, 0, shape.literals() - 1) || !isIn(b, 0, shape.literals() - 1)) {
                    noIndex(shape, call, x -> x.and(a, b));
                } else if (shape.ands == 24) {
                    full(shape, call, x -> x.and(a, b));
                }
            }
            String call = "output(" + a + ")";
            if (!isIn(a, 0, shape.literals() - 1)) {
                noIndex(shape, call, x -> x.output(a));
            } else if (shape.outputs == 6) {
                full(shape, call, x -> x.output(a));
            }
        }
    }

    private static void cells(Shape shape) {
        for (int pins : around(1, 3)) {
            int greatest = isIn(pins, 1, 3) ? GREATEST_TRUTH[pins] : 0;
            for (int truth : around(0, greatest)) {
                for (int area : around(1, 1000)) {
                    boolean fine = isIn(pins, 1, 3) && isIn(truth, 0, greatest) && isIn(area, 1, 1000);
                    String call = "cell(" + pins + ", " + truth + ", " + area + ")";
                    if (shape.cells == 12) {
                        full(shape, call, x -> x.cell(pins, truth, area));
                    } else if (!fine) {
                        outOfRange(shape, call, x -> x.cell(pins, truth, area));
                    }
                }
            }
        }
    }

    private static void delays(Shape shape) {
        for (int cell : around(0, shape.cells - 1)) {
            boolean isCell = isIn(cell, 0, shape.cells - 1);
            int lastPin = isCell ? shape.pinsOf(cell) - 1 : 0;
            for (int pin : around(0, lastPin)) {
                for (int d : around(0, 1000)) {
                    String call = "delay(" + cell + ", " + pin + ", " + d + ")";
                    if (!isCell || !isIn(pin, 0, lastPin)) {
                        noIndex(shape, call, x -> x.delay(cell, pin, d));
                    } else if (!isIn(d, 0, 1000)) {
                        outOfRange(shape, call, x -> x.delay(cell, pin, d));
                    }
                }
            }
        }
    }

    private static void times(Shape shape) {
        for (int k : around(0, shape.inputs - 1)) {
            for (int t : around(0, 1000)) {
                String call = "arrives(" + k + ", " + t + ")";
                if (!isIn(k, 0, shape.inputs - 1)) {
                    noIndex(shape, call, x -> x.arrives(k, t));
                } else if (!isIn(t, 0, 1000)) {
                    outOfRange(shape, call, x -> x.arrives(k, t));
                }
            }
        }
    }

    private static void questionsOfNodes(Shape shape) {
        for (int node : around(0, shape.nodes() - 1)) {
            boolean isNode = isIn(node, 0, shape.nodes() - 1);
            if (!isNode) {
                noIndex(shape, "cuts(" + node + ")", x -> x.cuts(node));
            }
            for (int k : around(0, 5)) {
                if (!isNode || k < 0) {
                    noIndex(shape, "cut(" + node + ", " + k + ")", x -> x.cut(node, k));
                    noIndex(shape, "function(" + node + ", " + k + ")", x -> x.function(node, k));
                }
            }
        }
    }

    private static void questionsOfLiterals(Shape shape) {
        for (int literal : around(0, shape.literals() - 1)) {
            boolean isLiteral = isIn(literal, 0, shape.literals() - 1);
            for (int what : around(0, 3)) {
                if (!isLiteral || !isIn(what, 0, 3)) {
                    noIndex(shape, "gate(" + literal + ", " + what + ")", x -> x.gate(literal, what));
                }
            }
            if (!isLiteral) {
                noIndex(shape, "arrival(" + literal + ")", x -> x.arrival(literal));
                noIndex(shape, "value(" + literal + ", 0)", x -> x.value(literal, 0));
                noIndex(shape, "mapped(" + literal + ", 0)", x -> x.mapped(literal, 0));
            }
        }
    }

    private static void otherQuestions(Shape shape) {
        for (int k : around(0, 3)) {
            if (k < 0) {
                noIndex(shape, "wanted(" + k + ")", x -> x.wanted(k));
            }
            if (!isIn(k, 0, 3)) {
                noIndex(shape, "count(" + k + ")", x -> x.count(k));
            }
        }
    }

    /** The same told one by one, for each method that can refuse for two reasons: both hold, and one of them comes. */
    private static void namedFirst() {
        CellMapping x = new Shape(8, 24, 6, 12).make();
        Checks.noIndex("and: no literal at the left, before no room", () -> x.and(64, 0));
        Checks.noIndex("and: no literal at the right, before no room", () -> x.and(0, -1));
        Checks.noIndex("output: no literal, before no room", () -> x.output(64));
        Checks.full("cell: no room, before no such pins", () -> x.cell(4, 0, 1));
        Checks.full("cell: no room, before no such truth", () -> x.cell(1, 4, 1));
        Checks.full("cell: no room, before no such area", () -> x.cell(1, 1, 0));
        Checks.noIndex("delay: no cell, before no such delay", () -> x.delay(12, 0, 1001));
        Checks.noIndex("delay: no pin, before no such delay", () -> x.delay(0, 1, -1));
        Checks.noIndex("arrives: no input, before no such time", () -> x.arrives(8, 1001));
        Checks.noIndex("arrives: no input below either, before no such time", () -> x.arrives(-1, -1));
    }

    /** One refusal after the other does no more than one alone: what comes next has the number that was due before. */
    private static void manyRefusals() {
        CellMapping x = new Shape(3, 3, 2, 2).make();
        for (int k = 0; k < 40; k++) {
            Checks.noIndex("and again", () -> x.and(0, 12));
            Checks.noIndex("output again", () -> x.output(12));
            Checks.outOfRange("cell again", () -> x.cell(2, 16, 1));
        }
        Checks.due("next input", x.input(), 12);
        Checks.due("next and", x.and(12, 13), 14);
        Checks.due("next output", x.output(15), 2);
        Checks.due("next cell", x.cell(2, 15, 1), 2);
    }

    private static void noIndex(Shape shape, String call, Consumer<CellMapping> refused) {
        String told = shape.name() + ": " + call;
        CellMapping x = shape.make();
        Checks.noIndex(told, () -> refused.accept(x));
        changesNothing(told, shape, refused);
    }

    private static void full(Shape shape, String call, Consumer<CellMapping> refused) {
        String told = shape.name() + ": " + call;
        CellMapping x = shape.make();
        Checks.full(told, () -> refused.accept(x));
        changesNothing(told, shape, refused);
    }

    private static void outOfRange(Shape shape, String call, Consumer<CellMapping> refused) {
        String told = shape.name() + ": " + call;
        CellMapping x = shape.make();
        Checks.outOfRange(told, () -> refused.accept(x));
        changesNothing(told, shape, refused);
    }

    /** Each look is at a new object: none is asked more than its 512 calls. */
    private static void changesNothing(String told, Shape shape, Consumer<CellMapping> refused) {
        for (int look = 0; look < LOOKS; look++) {
            CellMapping tried = shape.make();
            try {
                refused.accept(tried);
            } catch (RuntimeException alreadyChecked) {
                // Which exception it is has been looked at before.
            }
            Checks.due(told + " and then look " + look, lookAt(tried, shape, look), lookOf(shape, look));
        }
    }

    private static final List<String> KNOWN = new ArrayList<>();
    private static Shape knownShape;

    /** What the look shows of an object on which nothing was refused. */
    private static String lookOf(Shape shape, int look) {
        if (knownShape != shape) {
            knownShape = shape;
            KNOWN.clear();
            for (int i = 0; i < LOOKS; i++) {
                KNOWN.add(lookAt(shape.make(), shape, i));
            }
        }
        return KNOWN.get(look);
    }

    private static String lookAt(CellMapping x, Shape shape, int look) {
        StringBuilder seen = new StringBuilder();
        switch (look) {
            case 0:
                lookAtWhole(x, seen);
                break;
            case 1:
                lookAtCuts(x, shape, seen);
                break;
            case 2:
                lookAtGates(x, 0, shape.literals() / 2, seen);
                break;
            case 3:
                lookAtGates(x, shape.literals() / 2, shape.literals(), seen);
                break;
            case 4:
                lookAtValues(x, shape, seen);
                break;
            default:
                lookAtNumbers(x, shape, seen);
                break;
        }
        return seen.toString();
    }

    private static void lookAtWhole(CellMapping x, StringBuilder seen) {
        for (int what = 0; what < 4; what++) {
            seen.append(x.count(what)).append(' ');
        }
        seen.append(x.run()).append(' ').append(x.area()).append(' ').append(x.worst());
        for (int k = 0; k < 60; k++) {
            seen.append(' ').append(x.wanted(k));
        }
    }

    private static void lookAtCuts(CellMapping x, Shape shape, StringBuilder seen) {
        for (int node = 0; node < shape.nodes(); node++) {
            seen.append(x.cuts(node)).append(": ");
            for (int k = 0; k < 5; k++) {
                seen.append(x.cut(node, k)).append('=').append(x.function(node, k)).append(' ');
            }
        }
    }

    private static void lookAtGates(CellMapping x, int from, int to, StringBuilder seen) {
        for (int literal = from; literal < to; literal++) {
            seen.append(x.arrival(literal)).append('=');
            for (int what = 0; what < 4; what++) {
                seen.append(x.gate(literal, what)).append(',');
            }
        }
    }

    private static void lookAtValues(CellMapping x, Shape shape, StringBuilder seen) {
        for (int literal = 0; literal < shape.literals(); literal++) {
            seen.append(x.value(literal, 0x5A)).append(x.mapped(literal, 0xC6)).append(' ');
        }
    }

    /** Delays and times as they were told: telling them again is no change. Then what would come next. */
    private static void lookAtNumbers(CellMapping x, Shape shape, StringBuilder seen) {
        for (int cell = 0; cell < shape.cells; cell++) {
            for (int pin = 0; pin < shape.pinsOf(cell); pin++) {
                seen.append(x.delay(cell, pin, Shape.delayOf(cell, pin))).append(' ');
            }
        }
        for (int k = 0; k < shape.inputs; k++) {
            seen.append(x.arrives(k, Shape.timeOf(k))).append(' ');
        }
        if (shape.inputs < 8) {
            seen.append(x.input()).append(' ').append(x.arrival(2 * x.count(0) - 2)).append(' ');
        }
        if (shape.ands < 24 && x.count(0) > 0) {
            seen.append(x.and(0, 2 * x.count(0) - 1)).append(' ').append(x.cuts(x.count(0) - 1)).append(' ');
        }
        if (shape.outputs < 6 && x.count(0) > 0) {
            seen.append(x.output(1)).append(' ').append(x.run()).append(' ');
        }
        if (shape.cells < 12) {
            seen.append(x.cell(3, 1, 1)).append(x.delay(x.count(3) - 1, 2, 0));
        }
    }

    private static boolean isIn(int number, int least, int greatest) {
        return number >= least && number <= greatest;
    }

    /** The ends of a range, what stands next to them on both sides, and the ends of all numbers. */
    private static int[] around(int least, int greatest) {
        return new int[] {Integer.MIN_VALUE, Integer.MIN_VALUE + 1, least - 1, least, greatest, greatest + 1, Integer.MAX_VALUE};
    }
}
