import java.math.BigInteger;
import java.util.ArrayList;
import java.util.List;

/** Promises 32 to 34: undo and the digest. */
final class UndoTest {
    static void run() {
        undoing();
        undoingRefused();
        counting();
        digests();
    }

    private static void undoing() {
        Doc.promise(32, "Restores the state that was saved last, and removes it from the saved states.", () -> {
            WeighingConverter x = new WeighingConverter();
            x.setOffset(1);
            x.setOffset(2);
            x.undo();
            Check.equal(1, x.savedStates());
            x.setOffset(3);
            x.undo();
            Check.equal(1, x.setOffset(0));
            x.undo();
            x.undo();
            Check.equal(0, x.savedStates());
            Check.equal(0, x.setOffset(0));
        });
        Check.test("promise 32: rate, leak, offset and glitches come back", () -> {
            WeighingConverter x = new WeighingConverter();
            Check.charge(x, 4096, 1);
            x.setOffset(3);
            x.setGlitch(11);
            x.setCapacitor(2, 64);
            x.setOffset(-3);
            x.convert();
            Check.isTrue("no glitch after a conversion", !x.setGlitch(11));
            x.undo();
            x.undo();
            Check.isTrue("set before the conversion", x.setGlitch(11));
            x.undo();
            x.undo();
            Check.equal(3, x.setOffset(0));
            x.undo();
            x.undo();
            Check.equal(4095, x.hold(1));
            Check.equal(16, x.setCapacitor(1, 0));
        });
        Check.test("promise 32: all twelve weights come back, each one and their number", () -> {
            WeighingConverter x = Check.withWeights("1,2,3,4,5,6,7,8,9,10,11,12");
            for (int number = 0; number < 12; number++) {
                x.setWeight(number, 2048);
                x.undo();
            }
            x.sortWeights();
            x.undo();
            x.removeWeight(11);
            x.undo();
            Check.type(x, "7");
            x.load();
            x.undo();
            Check.weightsAre(x, 1, 2, 3, 4, 5, 6, 7, 8, 9, 10, 11, 12);
        });
        Check.test("promise 32: the log comes back, the one that was pushed out too", () -> {
            WeighingConverter x = new WeighingConverter();
            x.setCapacitor(16, 0);
            for (int code = 1; code <= 8; code++) {
                x.sample(16 * code + 1, 1);
                x.convert();
            }
            x.convert();
            Check.equal(2, x.code(7));
            x.undo();
            Check.equal(8, x.logged());
            Check.equal(8, x.code(0));
            Check.equal(1, x.code(7));
            Check.equal(128, x.kept(7));
            Check.equal(-1, x.error(7));
        });
        Doc.promise(32, "Returns the number of saved states that are left.", () -> {
            WeighingConverter x = new WeighingConverter();
            for (int offset = 1; offset <= 10; offset++) {
                x.setOffset(offset);
            }
            for (int left = 5; left >= 0; left--) {
                Check.equal(left, x.undo());
            }
            x.setOffset(0);
            Check.equal(0, x.undo());
        });
    }

    private static void undoingRefused() {
        Doc.promise(32, "Throws `IllegalStateException` if no state is saved", () -> {
            WeighingConverter x = new WeighingConverter();
            Check.refusedState(x, x::undo);
            x.append('1');
            Check.refusedState(x, x::undo);
            x.hold(1);
            Check.equal(0, x.undo());
            Check.refusedState(x, x::undo);
            for (int offset = 1; offset <= 7; offset++) {
                x.setOffset(offset);
            }
            for (int count = 0; count < 6; count++) {
                x.undo();
            }
            Check.refusedState(x, x::undo);
            Check.equal(1, x.setOffset(0));
            Check.equal(1, x.clearText());
        });
    }

    private static void counting() {
        Doc.promise(33, "Returns the number of saved states, 0 to 6.", () -> {
            WeighingConverter x = new WeighingConverter();
            Check.equal(0, x.savedStates());
            for (int count = 1; count <= 20; count++) {
                x.hold(1);
                Check.equal(Math.min(count, 6), x.savedStates());
            }
            x.undo();
            Check.equal(5, x.savedStates());
            x.hold(1);
            Check.equal(6, x.savedStates());
            Check.undoAll(x);
            x.hold(1);
            Check.equal(1, x.savedStates());
        });
        Check.test("promise 33: calls that are not undoable, or refused, save nothing", () -> {
            WeighingConverter x = new WeighingConverter();
            x.voltage();
            x.weights();
            x.weight(0);
            x.total();
            x.logged();
            x.meanError();
            x.ideal(5);
            x.nextCode();
            x.sums();
            x.leastMissing();
            x.mended(0);
            x.ticksToChange();
            x.ticksToSettle(5);
            x.append('x');
            x.firstError();
            x.digest();
            Check.equal(0, x.savedStates());
            Check.refusedArgument(x, x::load);
            x.clearText();
            Check.equal(0, x.savedStates());
        });
    }

    /** The document's list of values, read by the calls themselves. */
    private static List<Integer> values(WeighingConverter x) {
        List<Integer> values = new ArrayList<>(List.of(x.voltage(), x.weights(), x.total(), x.nextCode(), x.sums(),
            x.leastMissing(), x.ticksToChange(), x.logged()));
        for (int number = 0; number < x.weights(); number++) {
            values.add(x.weight(number));
            values.add(x.mended(number));
        }
        for (int conversion = 0; conversion < x.logged(); conversion++) {
            values.addAll(List.of(x.code(conversion), x.kept(conversion), x.error(conversion)));
        }
        return values;
    }

    private static long hash(List<Integer> values) {
        long hash = 8399;
        for (int value : values) {
            hash = 31 * hash + value;
        }
        return hash;
    }

    private static void digests() {
        Doc.promise(34, "Computes a hash of the state.", () -> {
            WeighingConverter x = new WeighingConverter();
            long before = x.digest();
            Check.equal(before, x.digest());
            x.append('1');
            x.hold(1);
            Check.equal(before, x.digest());
            x.sample(1, 1);
            Check.isTrue("another state", before != x.digest());
        });
        Doc.promise(34, "The hash starts at 8399.", () -> Check.equal(hash(List.of(0, 8, 255, 0, 256, 256, -1, 0, 128, 0,
            64, 0, 32, 0, 16, 0, 8, 0, 4, 0, 2, 0, 1, 0)), new WeighingConverter().digest()));
        Doc.promise(34, "For each value v of the following list, in order, the hash becomes 31 * hash + v, in long "
            + "arithmetic with overflow.", () -> {
                WeighingConverter x = Check.worn();
                BigInteger hash = BigInteger.valueOf(8399);
                for (int value : values(x)) {
                    hash = hash.multiply(BigInteger.valueOf(31)).add(BigInteger.valueOf(value));
                }
                Check.isTrue("the hash overflows", hash.bitLength() > 63);
                Check.equal(hash.longValue(), x.digest());
            });
        Doc.promise(34, "The values are: what voltage(), weights(), total(), nextCode(), sums(), leastMissing(), "
            + "ticksToChange() and logged() return; for each weight its size, and what mended() returns; for each "
            + "conversion of the log what code(), kept() and error() return.", () -> {
                WeighingConverter x = Check.withWeights("4,2,2,1");
                Check.charge(x, 100, 64);
                x.convert();
                x.setGlitch(3);
                x.convert();
                x.setOffset(20);
                Check.equal(hash(values(x)), x.digest());
                Check.equal(hash(values(Check.worn())), Check.worn().digest());
            });
        Doc.promise(34, "Returns the hash.", () -> {
            // One weight of 1, which nothing mends, and an empty log.
            WeighingConverter x = Check.withWeights("1");
            long hash = 8399;
            for (int value : new int[] {0, 1, 1, 0, 2, 2, -1, 0, 1, 0}) {
                hash = 31 * hash + value;
            }
            Check.equal(hash, x.digest());
        });
    }
}
