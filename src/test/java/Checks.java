/** What the tests share: each tells its wrong answers and ends with exit code 1 if there was one. */
final class Checks {
    private static int checked = 0;
    private static int wrong = 0;

    private Checks() {
    }

    static void due(String call, long got, long want) {
        checked++;
        if (got != want) {
            fail(call + " answered " + got + ", due is " + want);
        }
    }

    static void due(String call, boolean got, boolean want) {
        due(call, got ? 1 : 0, want ? 1 : 0);
    }

    static void due(String call, String got, String want) {
        checked++;
        if (!got.equals(want)) {
            fail(call + " answered " + got + ", due is " + want);
        }
    }

    static void noIndex(String call, Runnable action) {
        throwsExactly(call, IndexOutOfBoundsException.class, action);
    }

    static void full(String call, Runnable action) {
        throwsExactly(call, IllegalStateException.class, action);
    }

    static void outOfRange(String call, Runnable action) {
        throwsExactly(call, IllegalArgumentException.class, action);
    }

    static void end() {
        System.out.println(checked + " checks, " + wrong + " wrong");
        if (wrong != 0 || checked == 0) {
            System.exit(1);
        }
    }

    /** All that can be asked of an object without changing it, as one text: to see that a call changed nothing. */
    static String stateOf(CellMapping x) {
        StringBuilder state = new StringBuilder();
        for (int what = 0; what < 4; what++) {
            state.append(x.count(what)).append(' ');
        }
        for (int node = 0; node < x.count(0); node++) {
            for (int k = 0; k <= x.cuts(node); k++) {
                state.append(x.cut(node, k)).append(':').append(x.function(node, k)).append(' ');
            }
        }
        for (int literal = 0; literal < 2 * x.count(0); literal++) {
            state.append(x.arrival(literal)).append('=');
            for (int what = 0; what < 4; what++) {
                state.append(x.gate(literal, what)).append(',');
            }
            state.append(x.value(literal, 0x5A)).append(x.mapped(literal, 0x5A)).append(' ');
        }
        state.append(x.run()).append(' ').append(x.area()).append(' ').append(x.worst());
        for (int k = 0; k < 65; k++) {
            state.append(' ').append(x.wanted(k));
        }
        return state.toString();
    }

    private static void throwsExactly(String call, Class<? extends RuntimeException> want, Runnable action) {
        checked++;
        try {
            action.run();
        } catch (RuntimeException got) {
            if (got.getClass() != want) {
                fail(call + " threw " + got + ", due is " + want.getSimpleName());
            }
            return;
        }
        fail(call + " threw nothing, due is " + want.getSimpleName());
    }

    private static void fail(String text) {
        wrong++;
        System.out.println(text);
    }
}
