import java.util.IdentityHashMap;
import java.util.List;
import java.util.Map;

/** Runs tests, each of one sentence of a promise, and counts which passed and which failed. */
final class Trial {
    interface Body {
        void run();
    }

    interface Maker {
        Scene make();
    }

    interface Call {
        Object on(Scene s);
    }

    private static final Map<Maker, List<String>> VIEWS = new IdentityHashMap<>();
    private static final int PROMISES = 44;
    private static final int[] TESTS = new int[PROMISES + 1];
    private static int passed = 0;
    private static int failed = 0;

    private Trial() {
    }

    static void test(int promise, String sentence, Body body) {
        TESTS[promise]++;
        try {
            body.run();
            passed++;
        } catch (RuntimeException | AssertionError e) {
            failed++;
            System.out.println("promise " + promise + ", " + sentence + ": " + e + lineOf(e));
        }
    }

    private static String lineOf(Throwable e) {
        for (StackTraceElement frame : e.getStackTrace()) {
            if (frame.getClassName().endsWith("Bounds")) {
                return " (" + frame.getFileName() + ":" + frame.getLineNumber() + ")";
            }
        }
        return "";
    }

    /** Prints how many passed and failed; answers whether all passed, and each promise has a test. */
    static boolean report() {
        for (int promise = 1; promise <= PROMISES; promise++) {
            if (TESTS[promise] == 0) {
                failed++;
                System.out.println("promise " + promise + " has no test");
            }
        }
        System.out.println(passed + " passed, " + failed + " failed");
        return failed == 0;
    }

    // ---- what a test may claim

    static void same(long got, long want) {
        if (got != want) {
            throw new AssertionError("answered " + got + ", due is " + want);
        }
    }

    static void yes(boolean got) {
        same(got ? 1 : 0, 1);
    }

    static void no(boolean got) {
        same(got ? 1 : 0, 0);
    }

    static void outOfBounds(Maker maker, Call... calls) {
        refused(IndexOutOfBoundsException.class, maker, calls);
    }

    static void badArgument(Maker maker, Call... calls) {
        refused(IllegalArgumentException.class, maker, calls);
    }

    static void badState(Maker maker, Call... calls) {
        refused(IllegalStateException.class, maker, calls);
    }

    /** Each call, on a scene of its own, throws just this, and nothing that can be seen has changed by it. */
    private static void refused(Class<?> due, Maker first, Call[] calls) {
        Maker maker = () -> later(first.make());
        List<String> before = VIEWS.computeIfAbsent(first, key -> Views.of(maker));
        for (int k = 0; k < calls.length; k++) {
            Call call = calls[k];
            Class<?> got = thrownBy(call, maker.make());
            if (got != due) {
                throw new AssertionError("call " + k + " threw " + got + ", due is " + due);
            }
            List<String> after = Views.of(() -> {
                Scene s = maker.make();
                thrownBy(call, s);
                return s;
            });
            for (int row = 0; row < before.size(); row++) {
                if (!before.get(row).equals(after.get(row))) {
                    throw new AssertionError("call " + k + " changed " + before.get(row) + " to " + after.get(row));
                }
            }
        }
    }

    /** Ticks pass ahead of the call, so that it can be seen if by it something was written last. */
    private static Scene later(Scene s) {
        s.tick(5);
        return s;
    }

    private static Class<?> thrownBy(Call call, Scene s) {
        try {
            call.on(s);
            return null;
        } catch (RuntimeException e) {
            return e.getClass();
        }
    }
}
