/** Runs tests by name, counts them, and compares answers. */
final class Check {
    interface Body {
        void run() throws Exception;
    }

    static int passed = 0;
    static int failed = 0;

    static void test(String name, Body body) {
        try {
            body.run();
            passed++;
        } catch (Exception | AssertionError problem) {
            failed++;
            System.out.println("FAILED: " + name + ": " + problem);
        }
    }

    static void equal(long want, long got) {
        if (want != got) {
            throw new AssertionError("answered " + got + ", due is " + want);
        }
    }

    static void equal(double want, double got) {
        if (Double.compare(want, got) != 0) {
            throw new AssertionError("answered " + got + ", due is " + want);
        }
    }

    static void isTrue(String what, boolean holds) {
        if (!holds) {
            throw new AssertionError("does not hold: " + what);
        }
    }

    /** The very class, for what the machine throws belongs to classes below the document's ones. */
    static void refused(Class<? extends Exception> type, WeighingConverter x, Body call) {
        long before = x.digest();
        int savedBefore = x.savedStates();
        Class<?> thrown = null;
        try {
            call.run();
        } catch (Exception e) {
            thrown = e.getClass();
        }
        if (thrown != type) {
            throw new AssertionError("threw " + thrown + ", due is " + type);
        }
        equal(before, x.digest());
        equal(savedBefore, x.savedStates());
    }

    static void refusedArgument(WeighingConverter x, Body call) {
        refused(IllegalArgumentException.class, x, call);
    }

    static void refusedIndex(WeighingConverter x, Body call) {
        refused(IndexOutOfBoundsException.class, x, call);
    }

    static void refusedState(WeighingConverter x, Body call) {
        refused(IllegalStateException.class, x, call);
    }

    // ---- what many tests begin with

    static void type(WeighingConverter x, String text) {
        for (char sign : text.toCharArray()) {
            x.append(sign);
        }
    }

    static WeighingConverter withWeights(String text) {
        WeighingConverter x = new WeighingConverter();
        type(x, text);
        x.load();
        return x;
    }

    /** Brings the capacitor to a voltage; the rate is 16 afterwards. */
    static void charge(WeighingConverter x, int voltage, int leak) {
        x.setCapacitor(16, leak);
        equal(voltage, x.sample(voltage, 1));
    }

    static void weightsAre(WeighingConverter x, int... sizes) {
        equal(sizes.length, x.weights());
        for (int k = 0; k < sizes.length; k++) {
            equal(sizes[k], x.weight(k));
        }
    }
}
