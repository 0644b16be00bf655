/** Promises 5 to 7: the settings. */
final class SettingsTest {
    static void run() {
        capacitor();
        offset();
        glitch();
    }

    private static void capacitor() {
        Doc.promise(5, "Sets the rate and the leak.", () -> {
            WeighingConverter x = new WeighingConverter();
            x.setCapacitor(1, 64);
            Check.equal(100, x.sample(1600, 1));
            Check.equal(99, x.hold(1));
            x.setCapacitor(16, 0);
            Check.equal(1600, x.sample(1600, 1));
            Check.equal(1600, x.hold(1));
        });
        Check.undoable(5, x -> x.setCapacitor(2, 0));
        Check.test("promise 5: undo brings back a rate alone and a leak alone", () -> {
            WeighingConverter x = new WeighingConverter();
            Check.charge(x, 4096, 1);
            x.setCapacitor(2, 1);
            x.undo();
            x.setCapacitor(16, 64);
            x.undo();
            Check.equal(4095, x.hold(1));
            Check.equal(16, x.setCapacitor(1, 0));
        });
        Doc.promise(5, "`rate`: 1 to 16", () -> {
            WeighingConverter x = new WeighingConverter();
            for (int rate = 1; rate <= 16; rate++) {
                x.setCapacitor(rate, 0);
                Check.equal(100 * rate, x.sample(1600, 1));
                x.undo();
            }
            Check.refusedArgument(x, () -> x.setCapacitor(0, 0));
            Check.refusedArgument(x, () -> x.setCapacitor(17, 0));
        });
        Doc.promise(5, "`leak`: 0 to 64", () -> {
            WeighingConverter x = new WeighingConverter();
            for (int leak = 0; leak <= 64; leak++) {
                Check.charge(x, 4096, leak);
                Check.equal(4096 - leak, x.hold(1));
            }
            Check.refusedArgument(x, () -> x.setCapacitor(9, -1));
            Check.refusedArgument(x, () -> x.setCapacitor(9, 65));
        });
        Doc.promise(5, "Returns the previous rate.", () -> {
            WeighingConverter x = new WeighingConverter();
            Check.equal(8, x.setCapacitor(1, 16));
            Check.equal(1, x.setCapacitor(16, 0));
            Check.equal(16, x.setCapacitor(16, 1));
            Check.equal(16, x.setCapacitor(5, 1));
        });
        Doc.promise(5, "Throws `IllegalArgumentException` if an argument is out of range", () -> {
            WeighingConverter x = new WeighingConverter();
            for (int far : Check.FAR) {
                Check.refusedArgument(x, () -> x.setCapacitor(far, 0));
                Check.refusedArgument(x, () -> x.setCapacitor(9, far));
            }
            Check.refusedArgument(x, () -> x.setCapacitor(-1, 0));
            Check.refusedArgument(x, () -> x.setCapacitor(17, 65));
            Check.refusedArgument(x, () -> x.setCapacitor(0, 64));
            Check.refusedArgument(x, () -> x.setCapacitor(16, 65));
            Check.equal(8, x.setCapacitor(1, 0));
        });
    }

    private static void offset() {
        Doc.promise(6, "Sets the offset of the comparator.", () -> {
            WeighingConverter x = new WeighingConverter();
            x.setOffset(16);
            Check.equal(1, x.nextCode());
            x.setOffset(15);
            Check.equal(0, x.nextCode());
            Check.charge(x, 1600, 0);
            x.setOffset(-1);
            Check.equal(99, x.convert());
            Check.equal(99, x.convert());
        });
        Check.undoable(6, x -> x.setOffset(64));
        Doc.promise(6, "`offset`: -64 to 64", () -> {
            WeighingConverter x = new WeighingConverter();
            Check.charge(x, 128, 0);
            x.setOffset(64);
            Check.equal(12, x.nextCode());
            x.setOffset(-64);
            Check.equal(4, x.nextCode());
            Check.refusedArgument(x, () -> x.setOffset(-65));
            Check.refusedArgument(x, () -> x.setOffset(65));
        });
        Doc.promise(6, "Returns the previous offset.", () -> {
            WeighingConverter x = new WeighingConverter();
            Check.equal(0, x.setOffset(64));
            Check.equal(64, x.setOffset(-64));
            Check.equal(-64, x.setOffset(-64));
            Check.equal(-64, x.setOffset(0));
        });
        Doc.promise(6, "Throws `IllegalArgumentException` if offset is out of range", () -> {
            WeighingConverter x = new WeighingConverter();
            for (int far : Check.FAR) {
                Check.refusedArgument(x, () -> x.setOffset(far));
            }
            Check.equal(0, x.setOffset(1));
        });
    }

    private static void glitch() {
        Doc.promise(7, "Sets a glitch for a step of the next conversion.", () -> {
            WeighingConverter x = new WeighingConverter();
            x.setGlitch(0);
            x.setGlitch(7);
            Check.equal(129, x.convert());
            Check.equal(0, x.convert());
        });
        Check.test("promise 7: a glitch that is set twice is set", () -> {
            WeighingConverter x = new WeighingConverter();
            x.setGlitch(0);
            x.setGlitch(0);
            Check.equal(128, x.convert());
        });
        Doc.promise(7, "(It has no effect if there is no such step.)", () -> {
            WeighingConverter x = new WeighingConverter();
            Check.charge(x, 1600, 0);
            for (int step = 8; step < 12; step++) {
                x.setGlitch(step);
            }
            Check.equal(100, x.nextCode());
            Check.equal(100, x.convert());
            Check.equal(2 + 4 + 32, x.kept(0));
        });
        Check.test("promise 7: a glitch belongs to the step, whatever weight comes there", () -> {
            WeighingConverter x = new WeighingConverter();
            x.setGlitch(8);
            x.insertWeight(0, 5);
            Check.equal(1, x.nextCode());
            x.removeWeight(0);
            Check.equal(0, x.nextCode());
        });
        Check.undoable(7, x -> x.setGlitch(0));
        Doc.promise(7, "`step`: 0 to 11", () -> {
            WeighingConverter x = Check.withWeights("1,1,1,1,1,1,1,1,1,1,1,1");
            for (int step = 0; step < 12; step++) {
                x.setGlitch(step);
                Check.equal(1, x.convert());
                Check.equal(1 << step, x.kept(0));
            }
            Check.refusedIndex(x, () -> x.setGlitch(-1));
            Check.refusedIndex(x, () -> x.setGlitch(12));
        });
        Doc.promise(7, "Returns true if it was set before the call.", () -> {
            WeighingConverter x = new WeighingConverter();
            Check.isTrue("new", !x.setGlitch(0));
            Check.isTrue("again", x.setGlitch(0));
            Check.isTrue("another one", !x.setGlitch(11));
            Check.isTrue("another one again", x.setGlitch(11));
            x.convert();
            Check.isTrue("gone", !x.setGlitch(0));
            x.undo();
            x.undo();
            Check.isTrue("there again", x.setGlitch(0));
        });
        Doc.promise(7, "Throws `IndexOutOfBoundsException` if step is out of range", () -> {
            WeighingConverter x = new WeighingConverter();
            Check.refusedIndex(x, () -> x.setGlitch(32));
            for (int far : Check.FAR) {
                Check.refusedIndex(x, () -> x.setGlitch(far));
            }
        });
    }
}
