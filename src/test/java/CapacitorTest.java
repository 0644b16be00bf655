/** Promises 1 to 4: a new object and the capacitor. */
final class CapacitorTest {
    static void run() {
        newObject();
        sampling();
        samplingAnswers();
        holding();
        reading();
    }

    private static void newObject() {
        Doc.promise(1, "Creates a converter with an empty capacitor.", () -> {
            WeighingConverter x = new WeighingConverter();
            Check.equal(0, x.voltage());
            Check.equal(0, x.convert());
            Check.equal(0, x.error(0));
        });
        Check.test("promise 1: a new object is as the document says", () -> {
            WeighingConverter x = new WeighingConverter();
            Check.weightsAre(x, 128, 64, 32, 16, 8, 4, 2, 1);
            Check.equal(0, x.logged());
            Check.equal(0, x.savedStates());
            Check.equal(0, x.clearText());
            Check.equal(0, x.setOffset(0));
            Check.equal(8, x.setCapacitor(16, 0));
            for (int step = 0; step < 12; step++) {
                Check.isTrue("no glitch", !x.setGlitch(step));
            }
        });
        Check.test("promise 1: objects do not share their state", () -> {
            WeighingConverter x = new WeighingConverter();
            WeighingConverter y = new WeighingConverter();
            x.setWeight(0, 7);
            x.sample(100, 1);
            x.append('1');
            Check.equal(128, y.weight(0));
            Check.equal(0, y.voltage());
            Check.equal(0, y.savedStates());
            Check.equal(0, y.clearText());
            Check.equal(128, new WeighingConverter().weight(0));
        });
    }

    private static void sampling() {
        Doc.promise(2, "Samples an input.", () -> {
            WeighingConverter x = new WeighingConverter();
            Check.equal(800, x.sample(1600, 1));
            Check.equal(1400, x.sample(1600, 2));
            Check.equal(1600, x.sample(1600, 20));
            Check.equal(1600, x.sample(1600, 99));
            Check.equal(800, x.sample(0, 1));
            Check.equal(0, x.sample(0, 99));
        });
        Check.test("promise 2: the leak does not count while it samples", () -> {
            WeighingConverter x = new WeighingConverter();
            x.setCapacitor(8, 64);
            Check.equal(32000, x.sample(64000, 1));
            Check.equal(64000, x.sample(64000, 99));
        });
        Check.undoable(2, x -> x.sample(9, 9));
        Doc.promise(2, "`voltage`: 0 to 65535, the input", () -> {
            WeighingConverter x = new WeighingConverter();
            x.setCapacitor(16, 0);
            Check.equal(65535, x.sample(65535, 1));
            Check.equal(0, x.sample(0, 1));
            Check.equal(3, x.savedStates());
            Check.refusedArgument(x, () -> x.sample(-1, 1));
            Check.refusedArgument(x, () -> x.sample(65536, 1));
        });
        Doc.promise(2, "`ticks`: 1 to 99", () -> {
            WeighingConverter x = new WeighingConverter();
            x.setCapacitor(1, 0);
            Check.equal(1, x.sample(15, 1));
            Check.equal(2, x.sample(15, 1));
            Check.charge(x, 50000, 0);
            x.setCapacitor(1, 0);
            Check.equal(sampledOneByOne(50000, 65535, 99), x.sample(65535, 99));
            Check.refusedArgument(x, () -> x.sample(9, 0));
            Check.refusedArgument(x, () -> x.sample(9, 100));
        });
    }

    private static void samplingAnswers() {
        Doc.promise(2, "Returns the voltage of the capacitor after the call.", () -> {
            WeighingConverter x = new WeighingConverter();
            for (int voltage : new int[] {65535, 100, 0, 15, 15}) {
                int answer = x.sample(voltage, 1);
                Check.equal(x.voltage(), answer);
            }
        });
        Doc.promise(2, "Throws `IllegalArgumentException` if an argument is out of range", () -> {
            WeighingConverter x = new WeighingConverter();
            x.sample(500, 3);
            for (int far : Check.FAR) {
                Check.refusedArgument(x, () -> x.sample(far, 1));
                Check.refusedArgument(x, () -> x.sample(1, far));
                Check.refusedArgument(x, () -> x.sample(far, far));
            }
            Check.refusedArgument(x, () -> x.sample(65536, 99));
            Check.refusedArgument(x, () -> x.sample(65535, 100));
            Check.refusedArgument(x, () -> x.sample(1, -1));
        });
    }

    /** With the rate 1, upwards. */
    private static int sampledOneByOne(int voltage, int input, int ticks) {
        int sampled = voltage;
        for (int tick = 0; tick < ticks; tick++) {
            sampled += Math.max((input - sampled) / 16, sampled == input ? 0 : 1);
        }
        return sampled;
    }

    private static void holding() {
        Doc.promise(3, "Holds the voltage.", () -> {
            WeighingConverter x = new WeighingConverter();
            Check.charge(x, 65535, 64);
            Check.equal(64512, x.hold(1));
            Check.equal(63504, x.hold(1));
            Check.charge(x, 65535, 64);
            Check.equal(63504, x.hold(2));
            Check.charge(x, 64, 64);
            Check.equal(63, x.hold(1));
            Check.equal(63, x.hold(99));
        });
        Check.undoable(3, x -> x.hold(9));
        Doc.promise(3, "`ticks`: 1 to 99", () -> {
            WeighingConverter x = new WeighingConverter();
            // With leak 1, each tick takes 1 from a voltage between 4096 and 8191.
            Check.charge(x, 8191, 1);
            Check.equal(8190, x.hold(1));
            Check.equal(8091, x.hold(99));
            Check.refusedArgument(x, () -> x.hold(0));
            Check.refusedArgument(x, () -> x.hold(100));
        });
        Doc.promise(3, "Returns the voltage of the capacitor after the call.", () -> {
            WeighingConverter x = new WeighingConverter();
            Check.charge(x, 5000, 64);
            for (int ticks = 1; ticks < 99; ticks += 7) {
                int answer = x.hold(ticks);
                Check.equal(x.voltage(), answer);
            }
        });
        Doc.promise(3, "Throws `IllegalArgumentException` if ticks is out of range", () -> {
            WeighingConverter x = new WeighingConverter();
            Check.charge(x, 5000, 64);
            Check.refusedArgument(x, () -> x.hold(-1));
            for (int far : Check.FAR) {
                Check.refusedArgument(x, () -> x.hold(far));
            }
        });
    }

    private static void reading() {
        Doc.promise(4, "Returns the voltage of the capacitor.", () -> {
            WeighingConverter x = new WeighingConverter();
            Check.equal(0, x.voltage());
            Check.charge(x, 65535, 0);
            Check.equal(65535, x.voltage());
            Check.charge(x, 4095, 64);
            Check.equal(4095, x.voltage());
            x.hold(1);
            Check.equal(4032, x.voltage());
            x.undo();
            x.convert();
            Check.equal(3612, x.voltage());
            x.undo();
            Check.equal(4095, x.voltage());
        });
    }
}
