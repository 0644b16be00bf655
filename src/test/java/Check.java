import java.util.ArrayList;
import java.util.List;

/** Runs tests by name, counts them, and compares answers. */
final class Check {
    interface Body {
        void run() throws Exception;
    }

    interface Call {
        void on(WeighingConverter x);
    }

    /** Values that no parameter takes. */
    static final int[] FAR = {Integer.MIN_VALUE, Integer.MIN_VALUE + 1, -65536, 65536, Integer.MAX_VALUE};

    static int passed = 0;
    static int failed = 0;

    static void test(String name, Body body) {
        try {
            body.run();
            passed++;
        } catch (Exception | AssertionError problem) {
            failed++;
            System.out.println("FAILED: " + name + ": " + problem);
        }
    }

    static void equal(long want, long got) {
        if (want != got) {
            throw new AssertionError("answered " + got + ", due is " + want);
        }
    }

    static void equal(double want, double got) {
        if (Double.compare(want, got) != 0) {
            throw new AssertionError("answered " + got + ", due is " + want);
        }
    }

    static void equal(List<Long> want, List<Long> got) {
        if (!want.equals(got)) {
            throw new AssertionError("answered " + got + ", due is " + want);
        }
    }

    static void isTrue(String what, boolean holds) {
        if (!holds) {
            throw new AssertionError("does not hold: " + what);
        }
    }

    // ---- refused calls

    /** The very class, for what the machine throws belongs to classes below the document's ones. */
    static void refused(Class<? extends Exception> type, WeighingConverter x, Body call) {
        List<Long> before = seen(x);
        Class<?> thrown = null;
        try {
            call.run();
        } catch (Exception e) {
            thrown = e.getClass();
        }
        if (thrown != type) {
            throw new AssertionError("threw " + thrown + ", due is " + type);
        }
        equal(before, seen(x));
    }

    static void refusedArgument(WeighingConverter x, Body call) {
        refused(IllegalArgumentException.class, x, call);
    }

    static void refusedIndex(WeighingConverter x, Body call) {
        refused(IndexOutOfBoundsException.class, x, call);
    }

    static void refusedState(WeighingConverter x, Body call) {
        refused(IllegalStateException.class, x, call);
    }

    // ---- what can be seen

    /** All that can be seen of the state without changing anything. */
    static List<Long> seenState(WeighingConverter x) {
        return List.of(x.digest(), (long) x.ticksToSettle(0), (long) x.ticksToSettle(65535),
            Double.doubleToLongBits(x.meanError()));
    }

    static List<Long> seen(WeighingConverter x) {
        List<Long> seen = new ArrayList<>(seenState(x));
        seen.add((long) x.firstError());
        seen.add((long) x.savedStates());
        return seen;
    }

    // ---- what many tests begin with

    static void type(WeighingConverter x, String text) {
        for (char sign : text.toCharArray()) {
            x.append(sign);
        }
    }

    static WeighingConverter withWeights(String text) {
        WeighingConverter x = new WeighingConverter();
        type(x, text);
        x.load();
        return x;
    }

    /** Brings the capacitor to a voltage; the rate is 16 afterwards. */
    static void charge(WeighingConverter x, int voltage, int leak) {
        x.setCapacitor(16, leak);
        equal(voltage, x.sample(voltage, 1));
    }

    /**
     * Eleven weights that are not sorted, a voltage that leaks, an offset, a glitch, a full log, five saved
     * states, and a buffer without an error.
     */
    static WeighingConverter worn() {
        WeighingConverter x = withWeights("2,2048,1024,512,256,128,64,32,16,8,4");
        charge(x, 40000, 3);
        x.setOffset(5);
        for (int count = 0; count < 9; count++) {
            x.convert();
        }
        x.setGlitch(10);
        x.hold(1);
        x.undo();
        type(x, "12,7");
        return x;
    }

    /** Goes back as far as it can; counted, so that a broken undo() fails a test and does not hang it. */
    static void undoAll(WeighingConverter x) {
        for (int left = x.savedStates() - 1; left >= 0; left--) {
            equal(left, x.undo());
        }
        equal(0, x.savedStates());
    }

    static void weightsAre(WeighingConverter x, int... sizes) {
        equal(sizes.length, x.weights());
        for (int k = 0; k < sizes.length; k++) {
            equal(sizes[k], x.weight(k));
        }
    }

    // ---- what many promises say

    /** The promise's "Undoable.", for a call that changes the state of a worn converter. */
    static void undoable(int promise, Call call) {
        Doc.promise(promise, "Undoable.", () -> {
            WeighingConverter x = worn();
            List<Long> before = seenState(x);
            call.on(x);
            isTrue("the call changes the state", !before.equals(seenState(x)));
            equal(6, x.savedStates());
            equal(5, x.undo());
            equal(before, seenState(x));
        });
    }
}
