/** What the tests share: each tells its wrong answers and ends with exit code 1 if there was one. */
final class Checks {
    private static int checked = 0;
    private static int wrong = 0;

    private Checks() {
    }

    static void due(String call, long got, long want) {
        checked++;
        if (got != want) {
            fail(call + " answered " + got + ", due is " + want);
        }
    }

    static void due(String call, boolean got, boolean want) {
        due(call, got ? 1 : 0, want ? 1 : 0);
    }

    static void due(String call, String got, String want) {
        checked++;
        if (!got.equals(want)) {
            fail(call + " answered " + got + ", due is " + want);
        }
    }

    static void noIndex(String call, Runnable action) {
        throwsExactly(call, IndexOutOfBoundsException.class, action);
    }

    static void full(String call, Runnable action) {
        throwsExactly(call, IllegalStateException.class, action);
    }

    static void outOfRange(String call, Runnable action) {
        throwsExactly(call, IllegalArgumentException.class, action);
    }

    static void end() {
        System.out.println(checked + " checks, " + wrong + " wrong");
        if (wrong != 0 || checked == 0) {
            System.exit(1);
        }
    }

    private static void throwsExactly(String call, Class<? extends RuntimeException> want, Runnable action) {
        checked++;
        try {
            action.run();
        } catch (RuntimeException got) {
            if (got.getClass() != want) {
                fail(call + " threw " + got + ", due is " + want.getSimpleName());
            }
            return;
        }
        fail(call + " threw nothing, due is " + want.getSimpleName());
    }

    private static void fail(String text) {
        wrong++;
        System.out.println(text);
    }
}
