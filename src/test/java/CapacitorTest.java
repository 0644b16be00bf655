/** Promises 1 to 4: a new object and the capacitor. */
final class CapacitorTest {
    static void run() {
        Check.test("promise 1: a new object is as the document says", () -> {
            WeighingConverter x = new WeighingConverter();
            Check.equal(0, x.voltage());
            Check.weightsAre(x, 128, 64, 32, 16, 8, 4, 2, 1);
            Check.equal(0, x.logged());
            Check.equal(0, x.savedStates());
            Check.equal(0, x.clearText());
            Check.equal(0, x.convert());
            Check.equal(0, x.setOffset(0));
            Check.equal(8, x.setCapacitor(16, 0));
            for (int step = 0; step < 12; step++) {
                Check.equal(0, x.setGlitch(step) ? 1 : 0);
            }
        });
        Check.test("promise 1: at first nothing leaks", () -> {
            WeighingConverter x = new WeighingConverter();
            x.sample(60000, 99);
            Check.equal(60000, x.hold(99));
        });
        Check.test("promise 1: objects do not share their state", () -> {
            WeighingConverter x = new WeighingConverter();
            WeighingConverter y = new WeighingConverter();
            x.setWeight(0, 7);
            x.sample(100, 1);
            x.append('1');
            Check.equal(128, y.weight(0));
            Check.equal(0, y.voltage());
            Check.equal(0, y.savedStates());
            Check.equal(0, y.clearText());
            Check.equal(128, new WeighingConverter().weight(0));
        });
        sampling();
        holding();
    }

    private static void sampling() {
        Check.test("promise 2: each tick goes the rate's part of the way, up and down", () -> {
            WeighingConverter x = new WeighingConverter();
            Check.equal(800, x.sample(1600, 1));
            Check.equal(1400, x.sample(1600, 2));
            Check.equal(1600, x.sample(1600, 20));
            Check.equal(1600, x.sample(1600, 99));
            Check.equal(800, x.sample(0, 1));
            Check.equal(0, x.sample(0, 99));
        });
        Check.test("promise 2: the change is rounded toward zero, up and down", () -> {
            WeighingConverter x = new WeighingConverter();
            x.setCapacitor(1, 0);
            Check.equal(6, x.sample(100, 1));
            Check.charge(x, 100, 0);
            x.setCapacitor(1, 0);
            Check.equal(94, x.sample(0, 1));
            Check.equal(89, x.sample(0, 1));
        });
        Check.test("promise 2: where the change would be 0, it is 1 toward the input", () -> {
            WeighingConverter x = new WeighingConverter();
            x.setCapacitor(1, 0);
            Check.equal(1, x.sample(15, 1));
            Check.equal(8, x.sample(15, 7));
            Check.equal(15, x.sample(15, 7));
            Check.equal(15, x.sample(15, 99));
            Check.equal(14, x.sample(0, 1));
            Check.equal(15, x.sample(31, 1));
        });
        Check.test("promise 2: the edges of its range", () -> {
            WeighingConverter x = new WeighingConverter();
            x.setCapacitor(16, 0);
            Check.equal(65535, x.sample(65535, 1));
            Check.equal(0, x.sample(0, 99));
            Check.equal(3, x.savedStates());
        });
        Check.test("promise 2: wrong arguments are refused", () -> {
            WeighingConverter x = new WeighingConverter();
            x.sample(500, 3);
            for (int voltage : new int[] {-1, 65536, Integer.MIN_VALUE, Integer.MAX_VALUE}) {
                Check.refusedArgument(x, () -> x.sample(voltage, 1));
            }
            for (int ticks : new int[] {0, 100, -1, Integer.MIN_VALUE, Integer.MAX_VALUE}) {
                Check.refusedArgument(x, () -> x.sample(1, ticks));
            }
        });
    }

    private static void holding() {
        Check.test("promise 3: each tick takes the leak's part, rounded toward zero", () -> {
            WeighingConverter x = new WeighingConverter();
            Check.charge(x, 65535, 64);
            Check.equal(64512, x.hold(1));
            Check.equal(63504, x.hold(1));
            Check.charge(x, 65535, 64);
            Check.equal(63504, x.hold(2));
            Check.charge(x, 64, 64);
            Check.equal(63, x.hold(1));
            Check.equal(63, x.hold(99));
            Check.charge(x, 4096, 1);
            Check.equal(4095, x.hold(1));
            Check.equal(4095, x.hold(99));
        });
        Check.test("promise 3: 99 ticks are 99 ticks", () -> {
            WeighingConverter x = new WeighingConverter();
            Check.charge(x, 65535, 3);
            int held = 65535;
            for (int tick = 0; tick < 99; tick++) {
                held -= held * 3 / 4096;
            }
            Check.equal(held, x.hold(99));
        });
        Check.test("promise 3: wrong arguments are refused", () -> {
            WeighingConverter x = new WeighingConverter();
            Check.charge(x, 5000, 64);
            for (int ticks : new int[] {0, 100, -1, Integer.MIN_VALUE, Integer.MAX_VALUE}) {
                Check.refusedArgument(x, () -> x.hold(ticks));
            }
        });
        Check.test("promise 4: the voltage after each kind of call", () -> {
            WeighingConverter x = new WeighingConverter();
            Check.charge(x, 4095, 64);
            Check.equal(4095, x.voltage());
            x.hold(1);
            Check.equal(4032, x.voltage());
            x.undo();
            x.convert();
            Check.equal(3612, x.voltage());
            x.undo();
            Check.equal(4095, x.voltage());
        });
    }
}
