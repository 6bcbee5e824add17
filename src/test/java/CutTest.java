/** Promises 8 to 10: the cuts of nodes and their functions. */
public final class CutTest {
    public static void main(String[] args) {
        reconvergence();
        alikeLiterals();
        onlySmallest();
        fourLeavesAreNone();
        wrongInputs();
        manyCuts();
        Checks.end();
    }

    private static void dueCuts(String name, CellMapping x, int node, long[] cuts, int[] functions) {
        Checks.due(name + " cuts", x.cuts(node), cuts.length);
        for (int k = 0; k < cuts.length; k++) {
            Checks.due(name + " cut " + k, x.cut(node, k), cuts[k]);
            Checks.due(name + " function " + k, x.function(node, k), functions[k]);
        }
        Checks.due(name + " one cut more", x.cut(node, cuts.length), -1);
        Checks.due(name + " one function more", x.function(node, cuts.length), -1);
        Checks.due(name + " greatest k", x.cut(node, Integer.MAX_VALUE), -1);
        Checks.due(name + " greatest k's function", x.function(node, Integer.MAX_VALUE), -1);
    }

    /** Exclusive or of two inputs by three ands: its leaves may be one above the other, and count as free. */
    private static void reconvergence() {
        CellMapping x = new CellMapping();
        int a = x.input();
        int b = x.input();
        int both = x.and(a, b);
        int onlyA = x.and(a, both ^ 1);
        int onlyB = x.and(both ^ 1, b);
        x.and(onlyA ^ 1, onlyB ^ 1);
        dueCuts("input", x, 0, new long[] {}, new int[] {});
        dueCuts("both", x, 2, new long[] {3}, new int[] {8});
        dueCuts("onlyA", x, 3, new long[] {3, 5}, new int[] {2, 2});
        dueCuts("onlyB", x, 4, new long[] {3, 6}, new int[] {4, 2});
        // {0,1}; {0,1,2} holds it; {1,2,3}; {0,2,4}; {3,4}; {0,1,4} and {0,1,3} hold {0,1}.
        dueCuts("alike", x, 5, new long[] {3, 14, 21, 24}, new int[] {9, 13, 13, 1});
    }

    private static void alikeLiterals() {
        CellMapping x = new CellMapping();
        x.input();
        x.input();
        x.and(2, 2);
        x.and(2, 3);
        x.and(3, 3);
        x.and(4, 9);
        dueCuts("a and a", x, 2, new long[] {2}, new int[] {2});
        dueCuts("a and not a", x, 3, new long[] {2}, new int[] {0});
        dueCuts("not a and not a", x, 4, new long[] {2}, new int[] {1});
        dueCuts("two ways to one input", x, 5, new long[] {2, 20}, new int[] {2, 2});
    }

    private static void onlySmallest() {
        CellMapping x = new CellMapping();
        x.input();
        x.input();
        x.input();
        x.and(0, 2);
        x.and(6, 4);
        x.and(8, 1);
        dueCuts("of three inputs", x, 4, new long[] {7, 12}, new int[] {128, 8});
        dueCuts("of all below", x, 5, new long[] {7, 13, 17}, new int[] {0, 64, 4});
    }

    private static void fourLeavesAreNone() {
        CellMapping x = new CellMapping();
        for (int k = 0; k < 4; k++) {
            x.input();
        }
        x.and(0, 2);
        x.and(4, 7);
        x.and(9, 10);
        dueCuts("a tree of four", x, 6, new long[] {0x1C, 0x23, 0x30}, new int[] {2, 0x70, 4});
    }

    private static void wrongInputs() {
        CellMapping x = new CellMapping();
        x.input();
        x.and(0, 1);
        Checks.noIndex("cuts of -1", () -> x.cuts(-1));
        Checks.noIndex("cuts of 2", () -> x.cuts(2));
        Checks.noIndex("cut of -1", () -> x.cut(-1, 0));
        Checks.noIndex("cut of 2", () -> x.cut(2, 0));
        Checks.noIndex("cut -1", () -> x.cut(1, -1));
        Checks.noIndex("cut -1 of an input", () -> x.cut(0, -1));
        Checks.noIndex("least cut", () -> x.cut(1, Integer.MIN_VALUE));
        Checks.noIndex("function of -1", () -> x.function(-1, 0));
        Checks.noIndex("function of 2", () -> x.function(2, 0));
        Checks.noIndex("function -1", () -> x.function(1, -1));
        Checks.noIndex("function -1 of an input", () -> x.function(0, -1));
    }

    /** Three chains of ands: one node of each chain is a cut, and they are more than the first room for cuts. */
    private static void manyCuts() {
        CellMapping x = threeChains();
        int node = x.count(0) - 1;
        Checks.due("7 * 7 * 7 and 7 of two leaves", x.cuts(node), 350);
        long before = -1;
        for (int k = 0; k < 350; k++) {
            long cut = x.cut(node, k);
            Checks.due("in order " + k, cut > before, true);
            before = cut;
        }
        Checks.due("no more", x.cut(node, 350), -1);
        int over = x.and(2 * node + 1, 2 * node + 1) / 2;
        Checks.due("over it the same and itself", x.cuts(over), 351);
        Checks.due("itself is the last", x.cut(over, 350), 1L << node);
        Checks.due("its function", x.function(over, 350), 1);
        Checks.due("the first one's function", x.function(over, 0), 127);
        // Another object, so that neither is asked more than its 512 calls.
        CellMapping same = threeChains();
        for (int k = 0; k < 350; k += 2) {
            int leaves = Long.bitCount(same.cut(node, k));
            Checks.due("function " + k, same.function(node, k), leaves == 3 ? 128 : 8);
        }
    }

    private static CellMapping threeChains() {
        CellMapping x = new CellMapping();
        int[] ends = {x.input(), x.input(), x.input()};
        for (int k = 0; k < 18; k++) {
            ends[k % 3] = x.and(ends[k % 3], ends[k % 3]);
        }
        x.and(x.and(ends[0], ends[1]), ends[2]);
        return x;
    }
}
