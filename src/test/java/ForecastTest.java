/** Promises 21 to 27: forecasts, which change nothing. */
final class ForecastTest {
    private static final String WRONG_VOLTAGE = "Throws `IllegalArgumentException` if voltage is out of range";
    private static final String TWELVE_BITS = "2048,1024,512,256,128,64,32,16,8,4,2,1";
    private static final String TWELVE_ONES = "1,1,1,1,1,1,1,1,1,1,1,1";

    static void run() {
        ideals();
        nextCodes();
        sums();
        mending();
        mendingEdges();
        ticksToChange();
        ticksToSettle();
        settlingLong();
    }

    private static void ideals() {
        Doc.promise(21, "Returns the code of an ideal conversion.", () -> {
            WeighingConverter x = new WeighingConverter();
            Check.charge(x, 3000, 64);
            x.setOffset(64);
            x.setGlitch(0);
            Check.equal(0, x.ideal(15));
            Check.equal(1, x.ideal(16));
            Check.equal(99, x.ideal(1599));
            Check.equal(100, x.ideal(1600));
            x.setOffset(-64);
            Check.equal(100, x.ideal(1600));
        });
        Doc.promise(21, "`voltage`: 0 to 65535", () -> {
            WeighingConverter x = Check.withWeights(TWELVE_BITS);
            Check.equal(0, x.ideal(0));
            Check.equal(4095, x.ideal(65535));
            Check.refusedArgument(x, () -> x.ideal(-1));
            Check.refusedArgument(x, () -> x.ideal(65536));
        });
        Doc.promise(21, "Returns its code.", () -> {
            Check.equal(7, Check.withWeights("7").ideal(112));
            Check.equal(0, Check.withWeights("7").ideal(111));
            Check.equal(255, new WeighingConverter().ideal(65535));
            Check.equal(12, Check.withWeights(TWELVE_ONES).ideal(65535));
        });
        Doc.promise(21, WRONG_VOLTAGE, () -> {
            WeighingConverter x = new WeighingConverter();
            for (int far : Check.FAR) {
                Check.refusedArgument(x, () -> x.ideal(far));
            }
        });
    }

    private static void nextCodes() {
        Doc.promise(22, "Returns the code that convert() would return now.", () -> {
            WeighingConverter x = new WeighingConverter();
            Check.equal(0, x.nextCode());
            Check.charge(x, 4095, 64);
            Check.equal(240, x.nextCode());
            Check.equal(240, x.nextCode());
            x.setOffset(64);
            x.setGlitch(1);
            int forecast = x.nextCode();
            Check.isTrue("leak, offset and glitch count", forecast != 240);
            Check.equal(forecast, x.convert());
            Check.equal(x.nextCode(), x.convert());
            WeighingConverter y = new WeighingConverter();
            y.setGlitch(3);
            Check.equal(16, y.nextCode());
            Check.equal(16, y.convert());
            Check.equal(0, y.nextCode());
        });
    }

    private static void sums() {
        Doc.promise(23, "Returns how many numbers from 0 to 4095 are sums of some of the weights (each one at most once; "
            + "0 is such a sum).", () -> {
                Check.equal(256, new WeighingConverter().sums());
                Check.equal(2, Check.withWeights("2048").sums());
                Check.equal(2, Check.withWeights("1").sums());
                Check.equal(3, Check.withWeights("7,7").sums());
                Check.equal(4, Check.withWeights("63,1").sums());
                Check.equal(4, Check.withWeights("1,2047").sums());
                Check.equal(14, Check.withWeights("64,128,192,1").sums());
                Check.equal(13, Check.withWeights("2,2,2,2,2,2,2,2,2,2,2,2").sums());
            });
        Check.test("promise 23: the sum 4095 counts, the sum 4096 does not", () -> {
            Check.equal(4, Check.withWeights("2048,2047").sums());
            Check.equal(2, Check.withWeights("2048,2048").sums());
            Check.equal(4, Check.withWeights("2048,2048,2048,1").sums());
            Check.equal(4096, Check.withWeights("1,2,4,8,16,32,64,128,256,512,1024,2048").sums());
            Check.equal(4096, Check.withWeights(TWELVE_BITS).sums());
            Check.equal(4095, Check.withWeights("2047,1024,512,256,128,64,32,16,8,4,2,1").sums());
        });
        Doc.promise(24, "Finds the least number that is no sum of some of the weights.", () -> {
            Check.equal(256, new WeighingConverter().leastMissing());
            Check.equal(4, Check.withWeights("5,2,1").leastMissing());
            Check.equal(97, Check.withWeights("32,32,16,8,4,2,1,1").leastMissing());
            Check.equal(2, Check.withWeights("2048,2048,2048,1").leastMissing());
            Check.equal(13, Check.withWeights(TWELVE_ONES).leastMissing());
            Check.equal(64, Check.withWeights("32,16,8,4,2,1,65").leastMissing());
        });
        Doc.promise(24, "Returns the least number, from 1 on, that is not such a sum.", () -> {
            Check.equal(1, Check.withWeights("7").leastMissing());
            Check.equal(1, Check.withWeights("2048,2,4").leastMissing());
            Check.equal(2, Check.withWeights("1").leastMissing());
            Check.equal(4095, Check.withWeights("2047,1024,512,256,128,64,32,16,8,4,2,1").leastMissing());
            Check.equal(4096, Check.withWeights(TWELVE_BITS).leastMissing());
        });
    }

    private static void mending() {
        Doc.promise(25, "Tells for how many voltages a wrong decision would be mended.", () -> {
            WeighingConverter x = Check.withWeights("128,64,32,32,16,8,4,2,1");
            int[] due = {32, 64, 128, 0, 0, 0, 0, 0, 0};
            for (int step = 0; step < due.length; step++) {
                Check.equal(due[step], x.mended(step));
            }
        });
        Check.test("promise 25: weights without redundance mend nothing", () -> {
            WeighingConverter x = new WeighingConverter();
            for (int step = 0; step < 8; step++) {
                Check.equal(0, x.mended(step));
            }
        });
        Doc.promise(25, "`step`: the number of a weight", () -> {
            WeighingConverter x = Check.withWeights(TWELVE_ONES);
            // A step that wrongly leaves its weight out is mended by a later one, but for the last voltage.
            Check.equal(11, x.mended(0));
            Check.equal(1, x.mended(10));
            Check.equal(0, x.mended(11));
            Check.refusedIndex(x, () -> x.mended(-1));
            Check.refusedIndex(x, () -> x.mended(12));
        });
        Doc.promise(25, "Throws `IndexOutOfBoundsException` if there is no such weight", () -> {
            WeighingConverter x = new WeighingConverter();
            Check.refusedIndex(x, () -> x.mended(8));
            Check.refusedIndex(x, () -> x.mended(32));
            for (int far : Check.FAR) {
                Check.refusedIndex(x, () -> x.mended(far));
            }
            x.removeWeight(0);
            Check.equal(0, x.mended(6));
            Check.refusedIndex(x, () -> x.mended(7));
        });
    }

    private static void mendingEdges() {
        Doc.promise(25, "Returns for how many numbers v from 0 to 255 the conversion of the voltage 16 * v, without leak "
            + "and offset, but with a glitch for this step alone, has the code v.", () -> {
                // The first weight is left out wrongly, and the second one mends it for one voltage alone.
                Check.equal(1, Check.withWeights("1,1").mended(0));
                Check.equal(1, Check.withWeights("255,255").mended(0));
                Check.equal(0, Check.withWeights("256,256").mended(0));
                Check.equal(128, Check.withWeights("128,128,64,32,16,8,4,2,1").mended(0));
                Check.equal(127, Check.withWeights("129,129,64,32,16,8,4,2,1").mended(0));
            });
        Check.test("promise 25: leak, offset and the glitches that are set do not count", () -> {
            WeighingConverter x = Check.withWeights("128,64,32,32,16,8,4,2,1");
            Check.charge(x, 5000, 64);
            x.setOffset(64);
            for (int step = 0; step < 12; step++) {
                x.setGlitch(step);
            }
            Check.equal(32, x.mended(0));
            Check.equal(64, x.mended(1));
            Check.equal(128, x.mended(2));
            x.setOffset(-64);
            Check.equal(32, x.mended(0));
        });
    }

    private static void ticksToChange() {
        Doc.promise(26, "Predicts how long the code stays if the voltage is held.", () -> {
            WeighingConverter x = new WeighingConverter();
            Check.charge(x, 1600 + 5, 3); // loses 1 in a tick
            Check.equal(6, x.ticksToChange());
            Check.equal(1600, x.hold(5));
            Check.equal(1, x.ticksToChange());
            x.setOffset(-5);
            x.setGlitch(0);
            Check.equal(1, x.ticksToChange());
        });
        Doc.promise(26, "Returns the least number of ticks of holding after which an ideal conversion of the voltage has "
            + "another code than now; NONE if it has the same one after each number of ticks up to 200.", () -> {
                // With leak 1, each tick takes 1 from a voltage between 4096 and 8191; 300 steps are 4800.
                WeighingConverter x = Check.withWeights("300");
                for (int ticks : new int[] {1, 2, 199, 200}) {
                    Check.charge(x, 4799 + ticks, 1);
                    Check.equal(ticks, x.ticksToChange());
                }
                Check.charge(x, 4799 + 201, 1);
                Check.equal(WeighingConverter.NONE, x.ticksToChange());
                Check.charge(x, 4799, 64);
                Check.equal(WeighingConverter.NONE, x.ticksToChange());
            });
        Check.test("promise 26: NONE where nothing leaks any more", () -> {
            WeighingConverter x = new WeighingConverter();
            Check.equal(-1, x.ticksToChange());
            Check.charge(x, 1600, 0);
            Check.equal(-1, x.ticksToChange());
            Check.charge(x, 0, 64);
            Check.equal(-1, x.ticksToChange());
            Check.charge(x, 63, 64);
            Check.equal(-1, x.ticksToChange());
            Check.charge(x, 64, 64);
            Check.equal(1, x.ticksToChange());
        });
        Check.test("promise 26: the code changes where the weights let it, not with each step of the voltage", () -> {
            // 15 steps are 9 alone, for 9 + 7 is too much; the 8 is kept as soon as there are no 9 steps.
            WeighingConverter x = Check.withWeights("9,8,7");
            Check.charge(x, 16 * 15, 64);
            int ticks = x.ticksToChange();
            Check.isTrue("more than a step", ticks > 16);
            x.hold(ticks - 1);
            Check.equal(9, x.ideal(x.voltage()));
            x.hold(1);
            Check.equal(8, x.ideal(x.voltage()));
        });
    }

    private static void ticksToSettle() {
        Doc.promise(27, "Predicts how long an input must be sampled.", () -> {
            WeighingConverter x = new WeighingConverter();
            x.sample(1600, 2);
            Check.equal(5, x.ticksToSettle(1600));
            x.sample(1600, 4);
            Check.isTrue("not yet settled", 1600 - x.voltage() >= 16);
            x.sample(1600, 1);
            Check.isTrue("settled", 1600 - x.voltage() < 16);
            Check.equal(0, x.ticksToSettle(1600));
        });
        Doc.promise(27, "`voltage`: 0 to 65535, the input", () -> {
            WeighingConverter x = new WeighingConverter();
            x.setCapacitor(16, 0);
            Check.equal(0, x.ticksToSettle(0));
            Check.equal(1, x.ticksToSettle(65535));
            x.sample(65535, 1);
            Check.equal(1, x.ticksToSettle(0));
            Check.equal(0, x.ticksToSettle(65535));
            Check.refusedArgument(x, () -> x.ticksToSettle(-1));
            Check.refusedArgument(x, () -> x.ticksToSettle(65536));
        });
        Doc.promise(27, "Returns the least number of ticks of sampling after which the voltage of the capacitor differs "
            + "from the input by less than 16; 0 if it does now.", () -> {
                // Each row: v - h, and the ticks with the rate 8.
                int[][] rows = {{0, 0}, {1, 0}, {15, 0}, {16, 1}, {17, 1}, {30, 1}, {31, 2}, {32, 2}, {60, 2}, {61, 3},
                    {62, 3}, {64, 3}};
                for (int[] row : rows) {
                    WeighingConverter x = new WeighingConverter();
                    Check.charge(x, 30000, 64);
                    x.setCapacitor(8, 64);
                    Check.equal(row[1], x.ticksToSettle(30000 + row[0]));
                    Check.equal(row[1], x.ticksToSettle(30000 - row[0]));
                }
            });
    }

    private static void settlingLong() {
        Check.test("promise 27: a slow capacitor takes more than 99 ticks, up and down", () -> {
            WeighingConverter x = new WeighingConverter();
            Check.charge(x, 65535, 0);
            x.setCapacitor(1, 0);
            Check.equal(139, x.ticksToSettle(0));
            x.sample(0, 99);
            x.sample(0, 39);
            Check.equal(16, x.voltage());
            Check.equal(15, x.sample(0, 1));
            x.sample(0, 99);
            Check.equal(139, x.ticksToSettle(65535));
        });
        Doc.promise(27, WRONG_VOLTAGE, () -> {
            WeighingConverter x = new WeighingConverter();
            for (int far : Check.FAR) {
                Check.refusedArgument(x, () -> x.ticksToSettle(far));
            }
        });
    }
}
