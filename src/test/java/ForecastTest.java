/** Promises 21 to 27: forecasts, which change nothing. */
final class ForecastTest {
    private static final int[] WRONG_VOLTAGES = {-1, 65536, Integer.MIN_VALUE, Integer.MAX_VALUE};

    static void run() {
        codes();
        sums();
        mending();
        ticks();
        Check.test("promises 21 to 27: forecasts change nothing and save nothing", () -> {
            WeighingConverter x = new WeighingConverter();
            Check.charge(x, 4095, 64);
            x.setOffset(9);
            x.setGlitch(2);
            long before = x.digest();
            x.ideal(900);
            x.nextCode();
            x.sums();
            x.leastMissing();
            x.mended(3);
            x.ticksToChange();
            x.ticksToSettle(60000);
            Check.equal(before, x.digest());
            Check.equal(4, x.savedStates());
            Check.equal(4095, x.voltage());
            Check.isTrue("the glitch stays", x.setGlitch(2));
        });
    }

    private static void codes() {
        Check.test("promise 21: the code without leak, offset and glitches", () -> {
            WeighingConverter x = new WeighingConverter();
            Check.charge(x, 3000, 64);
            x.setOffset(64);
            x.setGlitch(0);
            Check.equal(0, x.ideal(0));
            Check.equal(0, x.ideal(15));
            Check.equal(1, x.ideal(16));
            Check.equal(99, x.ideal(1599));
            Check.equal(100, x.ideal(1600));
            Check.equal(255, x.ideal(65535));
            Check.equal(4095, Check.withWeights("2048,1024,512,256,128,64,32,16,8,4,2,1").ideal(65535));
            Check.equal(7, Check.withWeights("7").ideal(112));
            Check.equal(0, Check.withWeights("7").ideal(111));
        });
        Check.test("promise 21: wrong voltages are refused", () -> {
            WeighingConverter x = new WeighingConverter();
            for (int voltage : WRONG_VOLTAGES) {
                Check.refusedArgument(x, () -> x.ideal(voltage));
            }
        });
        Check.test("promise 22: the code of convert() now, with leak, offset and glitches", () -> {
            WeighingConverter x = new WeighingConverter();
            Check.charge(x, 4095, 64);
            Check.equal(240, x.nextCode());
            Check.equal(240, x.nextCode());
            x.setOffset(64);
            Check.equal(x.nextCode(), x.convert());
            x.setGlitch(1);
            int forecast = x.nextCode();
            Check.equal(forecast, x.convert());
            WeighingConverter y = new WeighingConverter();
            y.setGlitch(3);
            Check.equal(16, y.nextCode());
            Check.equal(16, y.convert());
            Check.equal(0, y.nextCode());
        });
    }

    private static void sums() {
        Check.test("promise 23: counts the sums from 0 to 4095", () -> {
            Check.equal(256, new WeighingConverter().sums());
            Check.equal(2, Check.withWeights("7").sums());
            Check.equal(3, Check.withWeights("7,7").sums());
            Check.equal(4, Check.withWeights("63,1").sums());
            Check.equal(4, Check.withWeights("1,2047").sums());
            Check.equal(4, Check.withWeights("2048,2048,2048,1").sums());
            Check.equal(2, Check.withWeights("2048,2048").sums());
            Check.equal(4, Check.withWeights("2048,2047").sums());
            Check.equal(14, Check.withWeights("64,128,192,1").sums());
            Check.equal(4096, Check.withWeights("1,2,4,8,16,32,64,128,256,512,1024,2048").sums());
            Check.equal(13, Check.withWeights("2,2,2,2,2,2,2,2,2,2,2,2").sums());
        });
        Check.test("promise 24: the least number that is no sum", () -> {
            Check.equal(256, new WeighingConverter().leastMissing());
            Check.equal(1, Check.withWeights("7").leastMissing());
            Check.equal(1, Check.withWeights("2048,2,4").leastMissing());
            Check.equal(2, Check.withWeights("1").leastMissing());
            Check.equal(2, Check.withWeights("2048,2048,2048,1").leastMissing());
            Check.equal(4, Check.withWeights("5,2,1").leastMissing());
            Check.equal(97, Check.withWeights("32,32,16,8,4,2,1,1").leastMissing());
            Check.equal(4096, Check.withWeights("2048,1024,512,256,128,64,32,16,8,4,2,1").leastMissing());
            Check.equal(13, Check.withWeights("1,1,1,1,1,1,1,1,1,1,1,1").leastMissing());
        });
    }

    private static void mending() {
        Check.test("promise 25: redundant weights mend wrong decisions", () -> {
            WeighingConverter x = Check.withWeights("128,64,32,32,16,8,4,2,1");
            int[] due = {32, 64, 128, 0, 0, 0, 0, 0, 0};
            for (int step = 0; step < due.length; step++) {
                Check.equal(due[step], x.mended(step));
            }
        });
        Check.test("promise 25: weights without redundance mend nothing", () -> {
            WeighingConverter x = new WeighingConverter();
            for (int step = 0; step < 8; step++) {
                Check.equal(0, x.mended(step));
            }
        });
        Check.test("promise 25: leak, offset and the glitches that are set do not count", () -> {
            WeighingConverter x = Check.withWeights("1,1");
            Check.charge(x, 5000, 64);
            x.setOffset(64);
            x.setGlitch(1);
            Check.equal(1, x.mended(0));
            Check.equal(0, x.mended(1));
        });
        Check.test("promise 25: the voltages go up to 16 * 255 and no further", () -> {
            // Kept wrongly, 256 spoils all codes to 255; left out wrongly, it is not asked for.
            WeighingConverter x = Check.withWeights("256,128,64,32,16,8,4,2,1,1");
            Check.equal(0, x.mended(0));
            // A second 128 mends a first one that is left out wrongly: 128 to 255 are 128 codes.
            WeighingConverter y = Check.withWeights("128,128,64,32,16,8,4,2,1");
            Check.equal(128, y.mended(0));
        });
        Check.test("promise 25: wrong steps are refused", () -> {
            WeighingConverter x = new WeighingConverter();
            for (int step : new int[] {-1, 8, 12, 32, Integer.MIN_VALUE, Integer.MAX_VALUE}) {
                Check.refusedIndex(x, () -> x.mended(step));
            }
            WeighingConverter full = Check.withWeights("1,1,1,1,1,1,1,1,1,1,1,1");
            full.mended(11);
            Check.refusedIndex(full, () -> full.mended(12));
        });
    }

    private static void ticks() {
        Check.test("promise 26: the ticks until the ideal code changes", () -> {
            WeighingConverter x = new WeighingConverter();
            Check.equal(-1, x.ticksToChange());
            Check.charge(x, 1000, 64);
            Check.equal(1, x.ticksToChange());
            Check.charge(x, 1007, 1);
            Check.equal(-1, x.ticksToChange());
            Check.charge(x, 63, 64);
            Check.equal(-1, x.ticksToChange());
            Check.charge(x, 1600 + 5, 3);
            Check.equal(6, x.ticksToChange());
            Check.charge(x, 1600, 0);
            Check.equal(-1, x.ticksToChange());
        });
        Check.test("promise 26: offset and glitches do not count", () -> {
            WeighingConverter x = new WeighingConverter();
            Check.charge(x, 1600 + 5, 3);
            x.setOffset(-5);
            x.setGlitch(0);
            Check.equal(6, x.ticksToChange());
        });
        Check.test("promise 26: 200 ticks are looked at, and no more", () -> {
            // With leak 1, each tick takes 1 from a voltage between 4096 and 8191.
            WeighingConverter x = Check.withWeights("300");
            Check.charge(x, 4800 + 199, 1);
            Check.equal(200, x.ticksToChange());
            Check.charge(x, 4800 + 200, 1);
            Check.equal(-1, x.ticksToChange());
        });
        Check.test("promise 27: the ticks until the input is settled", () -> {
            WeighingConverter x = new WeighingConverter();
            Check.equal(0, x.ticksToSettle(0));
            Check.equal(0, x.ticksToSettle(15));
            Check.equal(1, x.ticksToSettle(16));
            Check.equal(1, x.ticksToSettle(30));
            Check.equal(2, x.ticksToSettle(31));
            Check.equal(2, x.ticksToSettle(32));
            x.sample(1600, 2);
            Check.equal(5, x.ticksToSettle(1600));
            Check.charge(x, 1600, 0);
            Check.equal(0, x.ticksToSettle(1585));
            Check.equal(1, x.ticksToSettle(1584));
            Check.equal(1, x.ticksToSettle(65535));
        });
        Check.test("promise 27: a slow capacitor takes more than 99 ticks, up and down", () -> {
            WeighingConverter x = new WeighingConverter();
            Check.charge(x, 65535, 0);
            x.setCapacitor(1, 0);
            Check.equal(139, x.ticksToSettle(0));
            x.sample(0, 99);
            x.sample(0, 39);
            Check.equal(16, x.voltage());
            Check.equal(15, x.sample(0, 1));
            x.sample(0, 99);
            Check.equal(139, x.ticksToSettle(65535));
        });
        Check.test("promise 27: wrong voltages are refused", () -> {
            WeighingConverter x = new WeighingConverter();
            for (int voltage : WRONG_VOLTAGES) {
                Check.refusedArgument(x, () -> x.ticksToSettle(voltage));
            }
        });
    }
}
