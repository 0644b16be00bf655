import java.util.List;

/** Promises 32 to 34: undo and the digest. */
final class UndoTest {
    static void run() {
        undoing();
        counting();
        digests();
    }

    private static void undoing() {
        Check.test("promise 32: each undoable call is undone", () -> {
            WeighingConverter x = new WeighingConverter();
            Check.charge(x, 4000, 5);
            x.setOffset(3);
            x.setGlitch(1);
            x.convert();
            x.setGlitch(9);
            x.setWeight(0, 1);
            List<Check.Body> calls = List.of(() -> x.sample(9, 9), () -> x.hold(9), () -> x.setCapacitor(2, 0),
                () -> x.setOffset(-64), () -> x.setGlitch(0), () -> x.setWeight(1, 9),
                () -> x.insertWeight(0, 9), () -> x.removeWeight(0), x::sortWeights, x::convert,
                () -> {
                    Check.type(x, "9,9");
                    x.load();
                });
            for (Check.Body call : calls) {
                int savedBefore = x.savedStates();
                long before = x.digest();
                call.run();
                Check.equal(Math.min(savedBefore + 1, 6), x.savedStates());
                Check.equal(x.savedStates() - 1, x.undo());
                Check.equal(before, x.digest());
            }
        });
        Check.test("promise 32: rate, leak, offset and glitches come back", () -> {
            WeighingConverter x = new WeighingConverter();
            Check.charge(x, 4096, 1);
            x.setOffset(3);
            x.setGlitch(11);
            x.setCapacitor(2, 64);
            x.setOffset(-3);
            x.convert();
            Check.isTrue("no glitch after a conversion", !x.setGlitch(11));
            x.undo();
            x.undo();
            Check.isTrue("set before the conversion", x.setGlitch(11));
            x.undo();
            x.undo();
            Check.equal(3, x.setOffset(0));
            x.undo();
            x.undo();
            Check.equal(4095, x.hold(1));
            Check.equal(16, x.setCapacitor(1, 0));
        });
        Check.test("promise 32: the log comes back, the one that was pushed out too", () -> {
            WeighingConverter x = new WeighingConverter();
            x.setCapacitor(16, 0);
            for (int code = 1; code <= 8; code++) {
                x.sample(16 * code + 1, 1);
                x.convert();
            }
            x.convert();
            Check.equal(2, x.code(7));
            x.undo();
            Check.equal(8, x.logged());
            Check.equal(8, x.code(0));
            Check.equal(1, x.code(7));
            Check.equal(1, x.kept(7) / 128);
            Check.equal(-1, x.error(7));
        });
        Check.test("promise 32: six states at most, the oldest ones are discarded", () -> {
            WeighingConverter x = new WeighingConverter();
            for (int offset = 1; offset <= 10; offset++) {
                x.setOffset(offset);
                Check.equal(Math.min(offset, 6), x.savedStates());
            }
            for (int left = 5; left >= 0; left--) {
                Check.equal(left, x.undo());
            }
            Check.refusedState(x, x::undo);
            Check.equal(4, x.setOffset(0));
            Check.equal(0, x.undo());
            Check.refusedState(x, x::undo);
        });
        Check.test("promise 32: what was undone does not come back", () -> {
            WeighingConverter x = new WeighingConverter();
            x.setOffset(1);
            x.setOffset(2);
            x.undo();
            x.setOffset(3);
            x.undo();
            Check.equal(1, x.setOffset(0));
            x.undo();
            Check.equal(0, x.undo());
            Check.equal(0, x.setOffset(0));
        });
        Check.test("promise 32: the buffer is not undone", () -> {
            WeighingConverter x = new WeighingConverter();
            x.setOffset(1);
            Check.type(x, "77");
            x.undo();
            Check.equal(2, x.clearText());
        });
        Check.test("promise 32: without a saved state it is refused", () -> {
            WeighingConverter x = new WeighingConverter();
            Check.refusedState(x, x::undo);
            x.append('1');
            Check.refusedState(x, x::undo);
        });
    }

    private static void counting() {
        Check.test("promise 33: a call that changes nothing is saved too", () -> {
            WeighingConverter x = new WeighingConverter();
            x.hold(1);
            x.sample(0, 1);
            x.setOffset(0);
            x.setCapacitor(8, 0);
            x.sortWeights();
            Check.equal(5, x.savedStates());
            x.setGlitch(0);
            Check.equal(6, x.savedStates());
            x.setGlitch(0);
            Check.equal(6, x.savedStates());
        });
        Check.test("promise 33: calls that are not undoable, or refused, save nothing", () -> {
            WeighingConverter x = new WeighingConverter();
            x.voltage();
            x.weights();
            x.weight(0);
            x.total();
            x.logged();
            x.meanError();
            x.append('1');
            x.firstError();
            x.clearText();
            x.digest();
            Check.equal(0, x.savedStates());
            Check.refusedArgument(x, x::load);
            Check.equal(0, x.savedStates());
        });
    }

    private static void digests() {
        Check.test("promise 34: the hash of a new object", () -> {
            long hash = 8399;
            int[] values = {0, 8, 255, 0, 256, 256, -1, 0, 128, 0, 64, 0, 32, 0, 16, 0, 8, 0, 4, 0, 2, 0, 1, 0};
            for (int value : values) {
                hash = 31 * hash + value;
            }
            Check.equal(hash, new WeighingConverter().digest());
        });
        Check.test("promise 34: the values and their order", () -> {
            WeighingConverter x = Check.withWeights("4,2,2,1");
            Check.charge(x, 100, 64);
            x.convert();
            x.setGlitch(3);
            x.convert();
            x.setOffset(20);
            long hash = 8399;
            int[] first = {x.voltage(), 4, 9, x.nextCode(), 10, 10, x.ticksToChange(), 2};
            for (int value : first) {
                hash = 31 * hash + value;
            }
            for (int number = 0; number < 4; number++) {
                hash = 31 * hash + x.weight(number);
                hash = 31 * hash + x.mended(number);
            }
            for (int conversion = 0; conversion < 2; conversion++) {
                hash = 31 * hash + x.code(conversion);
                hash = 31 * hash + x.kept(conversion);
                hash = 31 * hash + x.error(conversion);
            }
            Check.equal(hash, x.digest());
            Check.equal(hash, x.digest());
        });
        Check.test("promise 34: the buffer and the saved states do not count", () -> {
            WeighingConverter x = new WeighingConverter();
            long before = x.digest();
            x.append('1');
            x.hold(1);
            Check.equal(before, x.digest());
        });
    }
}
