/** Promises 15 to 20: conversions and their log. */
final class ConversionTest {
    private static final int[] FAR_NUMBERS = {-1, Integer.MIN_VALUE, Integer.MAX_VALUE};

    static void run() {
        converting();
        logging();
        errors();
    }

    private static void converting() {
        Check.test("promise 15: weighs the voltage", () -> {
            WeighingConverter x = new WeighingConverter();
            Check.equal(0, x.convert());
            Check.charge(x, 1600, 0);
            Check.equal(100, x.convert());
            Check.equal(100, x.convert());
            Check.charge(x, 1599, 0);
            Check.equal(99, x.convert());
            Check.charge(x, 65535, 0);
            Check.equal(255, x.convert());
        });
        Check.test("promise 15: goes in the order of the numbers, not of the sizes", () -> {
            WeighingConverter x = Check.withWeights("3,4");
            Check.charge(x, 16 * 4, 0);
            Check.equal(3, x.convert());
            x.sortWeights();
            Check.equal(4, x.convert());
        });
        Check.test("promise 15: each step begins with a tick of holding", () -> {
            WeighingConverter x = Check.withWeights("4");
            Check.charge(x, 64, 64);
            Check.equal(0, x.convert());
            Check.equal(63, x.voltage());
            WeighingConverter y = new WeighingConverter();
            Check.charge(y, 4095, 64);
            Check.equal(240, y.convert());
            Check.equal(3612, y.voltage());
            Check.equal(15, y.kept(0));
        });
        Check.test("promise 15: an offset shifts each decision", () -> {
            WeighingConverter x = Check.withWeights("4");
            Check.charge(x, 63, 0);
            x.setOffset(1);
            Check.equal(4, x.convert());
            Check.charge(x, 64, 0);
            x.setOffset(-1);
            Check.equal(0, x.convert());
        });
        Check.test("promise 15: a glitch turns its decision, later weights may mend it", () -> {
            WeighingConverter x = Check.withWeights("128,64,32,32,16,8,4,2,1");
            Check.charge(x, 1600, 0);
            x.setGlitch(0);
            Check.equal(128, x.convert());
            x.setGlitch(1);
            Check.equal(95, x.convert());
            Check.equal(508, x.kept(0));
            Check.charge(x, 1616, 0);
            x.setGlitch(2);
            Check.equal(101, x.convert());
        });
        Check.test("promise 15: changes nothing but voltage, glitches and log; is saved", () -> {
            WeighingConverter x = new WeighingConverter();
            x.setOffset(-5);
            Check.charge(x, 1605, 0);
            Check.equal(100, x.convert());
            Check.equal(4, x.savedStates());
            Check.equal(16, x.setCapacitor(3, 3));
            Check.equal(-5, x.setOffset(0));
            Check.weightsAre(x, 128, 64, 32, 16, 8, 4, 2, 1);
        });
    }

    private static void logging() {
        Check.test("promise 16: counts up to 8", () -> {
            WeighingConverter x = new WeighingConverter();
            for (int count = 1; count <= 10; count++) {
                x.convert();
                Check.equal(Math.min(count, 8), x.logged());
            }
            x.nextCode();
            x.ideal(77);
            Check.equal(8, x.logged());
        });
        Check.test("promise 17: the codes, the latest one first, eight of them", () -> {
            WeighingConverter x = new WeighingConverter();
            x.setCapacitor(16, 0);
            for (int code = 1; code <= 10; code++) {
                x.sample(16 * code, 1);
                x.convert();
            }
            for (int conversion = 0; conversion < 8; conversion++) {
                Check.equal(10 - conversion, x.code(conversion));
            }
        });
        Check.test("promise 18: the weights that were kept", () -> {
            WeighingConverter x = new WeighingConverter();
            Check.charge(x, 1600, 0);
            x.convert();
            Check.equal(4 + 2 + 32, x.kept(0));
            x.removeWeight(0);
            Check.equal(38, x.kept(0));
            x.convert();
            Check.equal(19, x.kept(0));
            Check.equal(38, x.kept(1));
            WeighingConverter full = Check.withWeights("1,1,1,1,1,1,1,1,1,1,1,1");
            Check.charge(full, 16 * 12, 0);
            full.convert();
            Check.equal(4095, full.kept(0));
        });
        Check.test("promises 17 to 19: conversions that are not in the log are refused", () -> {
            WeighingConverter x = new WeighingConverter();
            for (int count = 0; count <= 9; count++) {
                int past = x.logged();
                Check.refusedIndex(x, () -> x.code(past));
                Check.refusedIndex(x, () -> x.kept(past));
                Check.refusedIndex(x, () -> x.error(past));
                x.convert();
            }
            for (int number : FAR_NUMBERS) {
                Check.refusedIndex(x, () -> x.code(number));
                Check.refusedIndex(x, () -> x.kept(number));
                Check.refusedIndex(x, () -> x.error(number));
            }
        });
    }

    private static void errors() {
        Check.test("promise 19: the error counts from the voltage before the first tick", () -> {
            WeighingConverter x = new WeighingConverter();
            Check.charge(x, 4095, 64);
            x.convert();
            Check.equal(-255, x.error(0));
            Check.charge(x, 7, 0);
            x.convert();
            Check.equal(-7, x.error(0));
            Check.equal(-255, x.error(1));
            x.setGlitch(0);
            x.convert();
            Check.equal(16 * 128 - 7, x.error(0));
            x.setWeight(0, 1);
            x.setOffset(64);
            Check.equal(16 * 128 - 7, x.error(0));
        });
        Check.test("promise 20: the mean error, 0.0 for an empty log", () -> {
            WeighingConverter x = new WeighingConverter();
            Check.equal(0.0, x.meanError());
            Check.charge(x, 7, 0);
            x.convert();
            Check.equal(-7.0, x.meanError());
            x.sample(16, 1);
            x.convert();
            Check.equal(-3.5, x.meanError());
            x.convert();
            Check.equal(-7.0 / 3.0, x.meanError());
            x.setOffset(64);
            x.convert();
            Check.equal(57.0 / 4.0, x.meanError());
        });
        Check.test("promise 20: errors that cancel out have the mean 0.0", () -> {
            WeighingConverter x = new WeighingConverter();
            x.convert();
            Check.equal(0.0, x.meanError());
        });
        Check.test("promise 20: only the latest eight count", () -> {
            WeighingConverter x = new WeighingConverter();
            Check.charge(x, 15, 0);
            x.convert();
            x.sample(1, 1);
            for (int count = 0; count < 8; count++) {
                x.convert();
            }
            Check.equal(-1.0, x.meanError());
        });
    }
}
