/** Promises 5 to 7: the settings. */
final class SettingsTest {
    static void run() {
        Check.test("promise 5: sets the rate and the leak, answers the previous rate", () -> {
            WeighingConverter x = new WeighingConverter();
            Check.equal(8, x.setCapacitor(1, 64));
            Check.equal(100, x.sample(1600, 1));
            Check.equal(99, x.hold(1));
            Check.equal(1, x.setCapacitor(16, 0));
            Check.equal(1600, x.sample(1600, 1));
            Check.equal(1600, x.hold(1));
            Check.equal(16, x.setCapacitor(16, 0));
            Check.equal(6, x.savedStates());
        });
        Check.test("promise 5: wrong arguments are refused", () -> {
            WeighingConverter x = new WeighingConverter();
            for (int rate : new int[] {0, 17, -1, Integer.MIN_VALUE, Integer.MAX_VALUE}) {
                Check.refusedArgument(x, () -> x.setCapacitor(rate, 0));
            }
            for (int leak : new int[] {-1, 65, Integer.MIN_VALUE, Integer.MAX_VALUE}) {
                Check.refusedArgument(x, () -> x.setCapacitor(9, leak));
            }
            Check.equal(8, x.setCapacitor(1, 0));
        });
        Check.test("promise 6: sets the offset, answers the previous one", () -> {
            WeighingConverter x = new WeighingConverter();
            Check.equal(0, x.setOffset(64));
            Check.equal(4, x.nextCode());
            Check.equal(64, x.setOffset(-64));
            Check.equal(0, x.nextCode());
            Check.equal(-64, x.setOffset(16));
            Check.equal(1, x.nextCode());
            Check.equal(16, x.setOffset(15));
            Check.equal(0, x.nextCode());
            Check.equal(4, x.savedStates());
        });
        Check.test("promise 6: wrong arguments are refused", () -> {
            WeighingConverter x = new WeighingConverter();
            for (int offset : new int[] {-65, 65, Integer.MIN_VALUE, Integer.MAX_VALUE}) {
                Check.refusedArgument(x, () -> x.setOffset(offset));
            }
            Check.equal(0, x.setOffset(1));
        });
        Check.test("promise 7: sets a glitch until the next conversion", () -> {
            WeighingConverter x = new WeighingConverter();
            Check.isTrue("new", !x.setGlitch(0));
            Check.isTrue("again", x.setGlitch(0));
            Check.isTrue("another one", !x.setGlitch(7));
            Check.equal(3, x.savedStates());
            Check.equal(129, x.convert());
            Check.equal(0, x.convert());
            Check.isTrue("gone", !x.setGlitch(0));
        });
        Check.test("promise 7: a glitch for a step that is not there has no effect", () -> {
            WeighingConverter x = new WeighingConverter();
            Check.charge(x, 1600, 0);
            for (int step = 8; step < 12; step++) {
                x.setGlitch(step);
            }
            Check.equal(100, x.nextCode());
            Check.equal(100, x.convert());
            Check.isTrue("gone as well", !x.setGlitch(11));
        });
        Check.test("promise 7: a glitch belongs to the step, whatever weight comes there", () -> {
            WeighingConverter x = new WeighingConverter();
            x.setGlitch(8);
            x.insertWeight(0, 5);
            Check.equal(1, x.nextCode());
            x.removeWeight(0);
            Check.equal(0, x.nextCode());
        });
        Check.test("promise 7: wrong steps are refused", () -> {
            WeighingConverter x = new WeighingConverter();
            for (int step : new int[] {-1, 12, 32, Integer.MIN_VALUE, Integer.MAX_VALUE}) {
                Check.refusedIndex(x, () -> x.setGlitch(step));
            }
        });
    }
}
