/** All promises: long runs of calls, right and wrong ones, each answer against that of the slow model. */
public final class ModelTest {
    private static final int RUNS = 80;
    private static final int CALLS = 512;
    private static final String[] NAMES = {"input", "and", "output", "cell", "delay", "arrives", "cuts", "cut",
        "function", "arrival", "gate", "run", "wanted", "area", "worst", "value", "mapped", "count", "clear"};
    /** How often each of them comes while an object is filled, and how often when it is asked. */
    private static final int[] FILLING = {8, 20, 4, 10, 8, 6, 1, 1, 1, 2, 2, 1, 1, 1, 1, 1, 1, 1, 0};
    private static final int[] ASKING = {1, 2, 1, 1, 3, 3, 3, 9, 9, 8, 14, 4, 10, 4, 4, 4, 6, 1, 0};
    private static final int[] USUAL_TRUTHS = {1, 2, 1, 7, 8, 6, 14, 1, 128, 127, 0xCA, 0x96, 0xE8, 0x80};
    private static final int[] USUAL_PINS = {1, 1, 1, 2, 2, 2, 2, 2, 3, 3, 3, 3, 3, 3};

    private static long seed;

    public static void main(String[] args) {
        for (int run = 0; run < RUNS; run++) {
            seed = 1000003L * run + 17;
            if (!same(run)) {
                break;
            }
        }
        Checks.end();
    }

    private static boolean same(int run) {
        CellMapping x = new CellMapping();
        Model model = new Model();
        int shape = below(4);
        int greatestDelay = new int[] {0, 2, 10, 1000}[below(4)];
        int untilAsking = 20 + below(80);
        for (int call = 0; call < CALLS; call++) {
            int which = pick(call < untilAsking ? FILLING : ASKING);
            if (call > untilAsking && below(150) == 0) {
                which = 18;
                untilAsking = call + 20 + below(80);
            }
            int[] a = arguments(which, model, shape, greatestDelay);
            String want = answer(model, null, which, a);
            String got = answer(null, x, which, a);
            String told = "run " + run + " call " + call + " " + NAMES[which] + "(" + a[0] + ", " + a[1] + ", " + a[2] + ")";
            Checks.due(told, got, want);
            if (!got.equals(want)) {
                return false;
            }
        }
        return true;
    }

    private static int[] arguments(int which, Model model, int shape, int greatestDelay) {
        int nodes = model.count(0);
        int wild = below(60) == 0 ? 1 : 0;
        int literal = near(2 * nodes, wild);
        switch (which) {
            case 1:
                return new int[] {andLiteral(nodes, shape, wild), andLiteral(nodes, shape, wild), 0};
            case 3:
                return cellArguments(wild);
            case 4:
                return new int[] {near(model.count(3), wild), below(3), wild == 1 ? 995 + below(10) : below(greatestDelay + 1)};
            case 5:
                return new int[] {near(model.count(1), wild), wild == 1 ? below(3) - 2 : below(greatestDelay + 1), 0};
            case 6:
                return new int[] {near(nodes, wild), 0, 0};
            case 7:
            case 8:
                return new int[] {near(nodes, wild), below(9) - wild, 0};
            case 10:
                return new int[] {literal, near(4, wild), 0};
            case 12:
                return new int[] {below(30) - wild, 0, 0};
            case 17:
                return new int[] {below(6) - 1, 0, 0};
            default:
                return new int[] {literal, (int) next(), 0};
        }
    }

    /** Shapes of graphs: any literals, late ones, chains that meet again, or nodes of one kind. */
    private static int andLiteral(int nodes, int shape, int wild) {
        if (nodes == 0 || wild == 1 || shape == 0) {
            return near(2 * nodes, wild);
        }
        int back = shape == 1 ? below(4) : shape == 2 ? below(3) * below(3) : below(2) * below(nodes);
        int node = Math.max(0, nodes - 1 - back);
        return 2 * node + (below(3) == 0 ? 1 : 0);
    }

    private static int[] cellArguments(int wild) {
        if (wild == 1) {
            return new int[] {below(6) - 1, below(20) - 2, below(1200) - 100};
        }
        int usual = below(2 * USUAL_PINS.length);
        if (usual < USUAL_PINS.length) {
            return new int[] {USUAL_PINS[usual], USUAL_TRUTHS[usual], 1 + below(1000)};
        }
        int pins = 1 + below(3);
        return new int[] {pins, below(1 << (1 << pins)), 1 + below(1000)};
    }

    /** An index below the size, or one that may be off by some. */
    private static int near(int size, int wild) {
        if (wild == 1) {
            int[] off = {-1, size, size + 1, Integer.MAX_VALUE, Integer.MIN_VALUE, 0};
            return off[below(off.length)];
        }
        return size == 0 ? 0 : below(size);
    }

    private static String answer(Model m, CellMapping x, int which, int[] a) {
        try {
            return String.valueOf(m != null ? ofModel(m, which, a) : ofClass(x, which, a));
        } catch (RuntimeException e) {
            return e.getClass().getSimpleName();
        }
    }

    private static long ofModel(Model m, int which, int[] a) {
        switch (which) {
            case 0: return m.input();
            case 1: return m.and(a[0], a[1]);
            case 2: return m.output(a[0]);
            case 3: return m.cell(a[0], a[1], a[2]);
            case 4: return m.delay(a[0], a[1], a[2]);
            case 5: return m.arrives(a[0], a[1]);
            case 6: return m.cuts(a[0]);
            case 7: return m.cut(a[0], a[1]);
            case 8: return m.function(a[0], a[1]);
            case 9: return m.arrival(a[0]);
            case 10: return m.gate(a[0], a[1]);
            case 11: return m.run();
            case 12: return m.wanted(a[0]);
            case 13: return m.area();
            case 14: return m.worst();
            case 15: return m.value(a[0], a[1]);
            case 16: return m.mapped(a[0], a[1]);
            case 17: return m.count(a[0]);
            default:
                m.clear();
                return 0;
        }
    }

    private static long ofClass(CellMapping x, int which, int[] a) {
        switch (which) {
            case 0: return x.input();
            case 1: return x.and(a[0], a[1]);
            case 2: return x.output(a[0]);
            case 3: return x.cell(a[0], a[1], a[2]);
            case 4: return x.delay(a[0], a[1], a[2]) ? 1 : 0;
            case 5: return x.arrives(a[0], a[1]) ? 1 : 0;
            case 6: return x.cuts(a[0]);
            case 7: return x.cut(a[0], a[1]);
            case 8: return x.function(a[0], a[1]);
            case 9: return x.arrival(a[0]);
            case 10: return x.gate(a[0], a[1]);
            case 11: return x.run();
            case 12: return x.wanted(a[0]);
            case 13: return x.area();
            case 14: return x.worst();
            case 15: return x.value(a[0], a[1]);
            case 16: return x.mapped(a[0], a[1]);
            case 17: return x.count(a[0]);
            default:
                x.clear();
                return 0;
        }
    }

    private static int pick(int[] weights) {
        int sum = 0;
        for (int weight : weights) {
            sum += weight;
        }
        int left = below(sum);
        int which = 0;
        while (left >= weights[which]) {
            left -= weights[which];
            which++;
        }
        return which;
    }

    /** The same numbers in every run of the test. */
    private static long next() {
        seed = seed * 6364136223846793005L + 1442695040888963407L;
        return seed >>> 33;
    }

    private static int below(int bound) {
        return (int) (next() % bound);
    }
}
