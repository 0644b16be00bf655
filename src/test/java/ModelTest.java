import java.lang.reflect.InvocationTargetException;
import java.lang.reflect.Method;
import java.lang.reflect.Modifier;
import java.util.ArrayList;
import java.util.Arrays;
import java.util.Comparator;
import java.util.List;
import java.util.Map;
import java.util.Random;

/** All promises: long runs of mixed calls, right and wrong ones, against the model. */
final class ModelTest {
    private static final int RUNS = 400;
    private static final int CALLS = 512;
    private static final int DEAR_CALL_ONE_IN = 6;

    /** The least and the greatest argument that each call takes, for each parameter. */
    private static final Map<String, int[]> RANGES = Map.ofEntries(
        Map.entry("sample", new int[] {0, 65535, 1, 99}), Map.entry("hold", new int[] {1, 99}),
        Map.entry("setCapacitor", new int[] {1, 16, 0, 64}), Map.entry("setOffset", new int[] {-64, 64}),
        Map.entry("setGlitch", new int[] {0, 11}), Map.entry("setWeight", new int[] {0, 11, 1, 2048}),
        Map.entry("insertWeight", new int[] {0, 12, 1, 2048}), Map.entry("removeWeight", new int[] {0, 11}),
        Map.entry("weight", new int[] {0, 11}), Map.entry("code", new int[] {0, 7}),
        Map.entry("kept", new int[] {0, 7}), Map.entry("error", new int[] {0, 7}),
        Map.entry("ideal", new int[] {0, 65535}), Map.entry("mended", new int[] {0, 11}),
        Map.entry("ticksToSettle", new int[] {0, 65535}), Map.entry("append", new int[] {33, 126}));

    static void run() {
        Check.test("promises 1 to 34: mixed runs answer as the model does", () -> {
            for (int seed = 1; seed <= RUNS; seed++) {
                mixedRun(new Random(seed), seed);
            }
        });
    }

    private static void mixedRun(Random random, int seed) throws Exception {
        WeighingConverter x = new WeighingConverter();
        Model model = new Model();
        List<Method> calls = faceCalls();
        String toType = "";
        for (int count = 0; count < CALLS; count++) {
            Method call = calls.get(random.nextInt(calls.size()));
            if (call.getName().equals("digest") && random.nextInt(DEAR_CALL_ONE_IN) != 0) {
                call = WeighingConverter.class.getMethod("convert");
            }
            Object[] arguments = argumentsFor(call, random);
            if (toType.isEmpty() && random.nextInt(60) == 0) {
                toType = "~" + weightText(random) + "!";
            }
            if (!toType.isEmpty()) {
                call = callToType(toType.charAt(0));
                arguments = call.getParameterCount() == 0 ? new Object[0] : new Object[] {(int) toType.charAt(0)};
                toType = toType.substring(1);
            }
            Object due = answer(Model.class.getMethod(call.getName(), call.getParameterTypes()), model, arguments);
            Object got = answer(call, x, arguments);
            if (!got.equals(due)) {
                throw new AssertionError("seed " + seed + ", call " + count + ": " + call.getName()
                    + Arrays.toString(arguments) + " answered " + got + ", due is " + due);
            }
        }
        Check.equal(model.digest(), x.digest());
    }

    /** "~" stands for clearText, "!" for load. */
    private static Method callToType(char sign) throws Exception {
        return switch (sign) {
            case '~' -> WeighingConverter.class.getMethod("clearText");
            case '!' -> WeighingConverter.class.getMethod("load");
            default -> WeighingConverter.class.getMethod("append", int.class);
        };
    }

    private static String weightText(Random random) {
        int weights = 1 + random.nextInt(13);
        int bits = 1 + random.nextInt(12);
        StringBuilder text = new StringBuilder();
        for (int k = 0; k < weights; k++) {
            text.append(k == 0 ? "" : ",").append(1 + random.nextInt(1 << bits));
        }
        return text.substring(0, Math.min(text.length(), 60));
    }

    private static List<Method> faceCalls() {
        List<Method> calls = new ArrayList<>();
        for (Method method : WeighingConverter.class.getDeclaredMethods()) {
            if (Modifier.isPublic(method.getModifiers())) {
                calls.add(method);
            }
        }
        calls.sort(Comparator.comparing(Method::getName));
        return calls;
    }

    private static Object[] argumentsFor(Method call, Random random) {
        Object[] arguments = new Object[call.getParameterCount()];
        for (int k = 0; k < arguments.length; k++) {
            int[] range = RANGES.get(call.getName());
            arguments[k] = argument(range[2 * k], range[2 * k + 1], random);
        }
        if (call.getName().equals("append") && random.nextInt(8) != 0) {
            arguments[0] = (int) "0123456789,,,,,".charAt(random.nextInt(15));
        }
        return arguments;
    }

    private static int argument(int least, int most, Random random) {
        int width = most - least + 1;
        return switch (random.nextInt(16)) {
            case 0 -> least - 1;
            case 1 -> least;
            case 2 -> most;
            case 3 -> most + 1;
            case 4 -> random.nextInt();
            case 5, 6, 7, 8, 9 -> least + random.nextInt(Math.min(width, 9));
            case 10, 11 -> least + random.nextInt(Math.min(width, 6000));
            default -> least + random.nextInt(width);
        };
    }

    private static Object answer(Method call, Object object, Object[] arguments) throws Exception {
        try {
            return call.invoke(object, arguments);
        } catch (InvocationTargetException e) {
            return "throws " + e.getCause().getClass().getName();
        }
    }
}
