import java.util.ArrayList;
import java.util.List;

/** What the document says before its promises, with the edges that it names there. */
final class TermsTest {
    private static final String TWELVE = "2048,1024,512,256,128,64,32,16,8,4,2,1";

    static void run() {
        numbers();
        capacitor();
        weights();
        steps();
        decisions();
        glitches();
        errorsAndIdeals();
        log();
        text();
        undo();
        exceptions();
    }

    private static void numbers() {
        Doc.term("An object is used for at most 512 calls after it has been made; what later calls answer is free.",
            () -> {
                WeighingConverter x = new WeighingConverter();
                x.setCapacitor(16, 0);
                for (int call = 2; call < 512; call += 2) {
                    int code = call % 256;
                    Check.equal(16 * code, x.sample(16 * code, 1));
                    Check.equal(code, x.convert());
                }
                Check.equal(5, x.undo());
            });
        Doc.term("All numbers are integers, except for meanError(); divisions round toward zero.", () -> {
            WeighingConverter x = new WeighingConverter();
            Check.charge(x, 100, 0);
            x.setCapacitor(1, 0);
            Check.equal(94, x.sample(0, 1)); // -100 / 16 is -6, not -7
            Check.equal(100, x.sample(199, 1)); // 105 / 16 is 6, not 7
            Check.charge(x, 8191, 1);
            Check.equal(8190, x.hold(1)); // 8191 / 4096 is 1, not 2
            x.convert();
            Check.charge(x, 0, 0);
            x.convert();
            Check.equal((16 * 255 - 8190) / 2.0, x.meanError());
            x.convert();
            Check.equal((16 * 255 - 8190) / 3.0, x.meanError());
        });
        Doc.term("Voltages are in sixteenths of a step, from 0 to 65535.", () -> {
            WeighingConverter x = Check.withWeights(TWELVE);
            int[][] rows = {{0, 0}, {15, 0}, {16, 1}, {65519, 4094}, {65520, 4095}, {65535, 4095}};
            for (int[] row : rows) {
                Check.charge(x, row[0], 0);
                Check.equal(row[1], x.convert());
            }
            Check.refusedArgument(x, () -> x.sample(-1, 1));
            Check.refusedArgument(x, () -> x.sample(65536, 1));
        });
        Doc.term("The constants: `NONE = -1`: There is no such number.", () -> {
            Check.equal(-1, WeighingConverter.NONE);
            Check.equal(WeighingConverter.NONE, new WeighingConverter().ticksToChange());
        });
    }

    private static void capacitor() {
        Doc.term("The capacitor has a voltage, at first 0.", () -> Check.equal(0, new WeighingConverter().voltage()));
        Doc.term("There are a rate from 1 to 16, at first 8, and a leak from 0 to 64, at first 0.", () -> {
            WeighingConverter x = new WeighingConverter();
            Check.equal(32000, x.sample(64000, 1));
            Check.equal(32000, x.hold(99));
            Check.equal(8, x.setCapacitor(1, 64));
            Check.equal(1, x.setCapacitor(16, 0));
            Check.equal(16, x.setCapacitor(16, 64));
            Check.refusedArgument(x, () -> x.setCapacitor(0, 0));
            Check.refusedArgument(x, () -> x.setCapacitor(17, 0));
            Check.refusedArgument(x, () -> x.setCapacitor(1, -1));
            Check.refusedArgument(x, () -> x.setCapacitor(1, 65));
        });
        Doc.term("In a tick of sampling, with the input v and the voltage h, the voltage changes by (v - h) * rate / 16; "
            + "but if this is 0 and v is not h, it changes by 1 toward v.", () -> {
                // Each row: the rate, v - h, and the change of one tick.
                int[][] rows = {{1, 0, 0}, {1, 1, 1}, {1, 15, 1}, {1, 16, 1}, {1, 31, 1}, {1, 32, 2}, {1, 33, 2},
                    {8, 1, 1}, {8, 2, 1}, {8, 3, 1}, {8, 4, 2}, {15, 1, 1}, {15, 2, 1}, {15, 16, 15}, {15, 17, 15},
                    {16, 0, 0}, {16, 1, 1}, {16, 2, 2}, {16, 30000, 30000}};
                for (int[] row : rows) {
                    WeighingConverter x = new WeighingConverter();
                    Check.charge(x, 30000, 0);
                    x.setCapacitor(row[0], 0);
                    Check.equal(30000 + row[2], x.sample(30000 + row[1], 1));
                    x.undo();
                    Check.equal(30000 - row[2], x.sample(30000 - row[1], 1));
                }
            });
        Doc.term("In a tick of holding, the voltage h decreases by h * leak / 4096.", () -> {
            // Each row: the leak, h, and the decrease of one tick.
            int[][] rows = {{0, 65535, 0}, {1, 0, 0}, {64, 0, 0}, {1, 4095, 0}, {1, 4096, 1}, {1, 8191, 1}, {1, 8192, 2},
                {64, 63, 0}, {64, 64, 1}, {64, 127, 1}, {64, 128, 2}, {63, 65, 0}, {63, 66, 1}, {64, 65535, 1023}};
            for (int[] row : rows) {
                WeighingConverter x = new WeighingConverter();
                Check.charge(x, row[1], row[0]);
                Check.equal(row[1] - row[2], x.hold(1));
            }
        });
    }

    private static void weights() {
        Doc.term("There are 1 to 12 weights, numbered from 0; a weight is 1 to 2048 steps.", () -> {
            WeighingConverter x = new WeighingConverter();
            for (int count = 8; count < 12; count++) {
                x.insertWeight(count, 2048);
            }
            Check.refusedState(x, () -> x.insertWeight(12, 1));
            Check.equal(128, x.weight(0));
            Check.equal(2048, x.weight(11));
            Check.refusedIndex(x, () -> x.weight(12));
            for (int count = 12; count > 1; count--) {
                x.removeWeight(0);
            }
            Check.refusedState(x, () -> x.removeWeight(0));
            Check.equal(2048, x.setWeight(0, 1));
            Check.equal(1, x.setWeight(0, 2048));
            Check.refusedArgument(x, () -> x.setWeight(0, 0));
            Check.refusedArgument(x, () -> x.setWeight(0, 2049));
            Check.refusedArgument(x, () -> x.insertWeight(0, 0));
            Check.refusedArgument(x, () -> x.insertWeight(0, 2049));
        });
        Doc.term("At first there are eight weights: 128, 64, 32, 16, 8, 4, 2 and 1.",
            () -> Check.weightsAre(new WeighingConverter(), 128, 64, 32, 16, 8, 4, 2, 1));
        Doc.term("The offset of the comparator is -64 to 64 (sixteenths of a step), at first 0.", () -> {
            WeighingConverter x = new WeighingConverter();
            Check.charge(x, 15, 0);
            Check.equal(0, x.nextCode());
            Check.equal(0, x.setOffset(1));
            Check.equal(1, x.nextCode());
            Check.equal(1, x.setOffset(64));
            Check.equal(4, x.nextCode());
            Check.charge(x, 127, 0);
            Check.equal(64, x.setOffset(-64));
            Check.equal(3, x.nextCode());
            Check.refusedArgument(x, () -> x.setOffset(-65));
            Check.refusedArgument(x, () -> x.setOffset(65));
        });
    }

    private static void steps() {
        Doc.term("A conversion takes one step for each weight, in the order of their numbers.", () -> {
            WeighingConverter x = Check.withWeights("3,4");
            Check.charge(x, 16 * 4, 0);
            Check.equal(3, x.convert());
            x.sortWeights();
            Check.equal(4, x.convert());
            for (String text : new String[] {"2048", "2048,2048", TWELVE}) {
                WeighingConverter y = Check.withWeights(text);
                Check.charge(y, 65535, 64);
                int afterAllSteps = y.hold(y.weights());
                y.undo();
                y.convert();
                Check.equal(afterAllSteps, y.voltage());
            }
        });
        Doc.term("The code is 0 at its beginning.", () -> {
            WeighingConverter x = Check.withWeights("1");
            Check.charge(x, 16, 0);
            Check.equal(1, x.convert());
            Check.equal(1, x.convert());
            Check.charge(x, 15, 0);
            Check.equal(0, x.convert());
        });
        Doc.term("In each step there is first a tick of holding.", () -> {
            WeighingConverter x = Check.withWeights("4");
            Check.charge(x, 64, 64);
            Check.equal(0, x.convert()); // compared is 63
            Check.equal(63, x.voltage());
            Check.charge(x, 65, 64);
            Check.equal(4, x.convert()); // compared is 64
            Check.equal(64, x.voltage());
            WeighingConverter y = Check.withWeights("1,4");
            Check.charge(y, 81, 64);
            Check.equal(1, y.convert()); // compared are 80 and 79
            Check.equal(79, y.voltage());
        });
        Doc.term("(So with a leak the voltage of the capacitor can be less after a conversion than before it.)", () -> {
            WeighingConverter x = new WeighingConverter();
            Check.charge(x, 4095, 64);
            x.convert();
            Check.equal(3612, x.voltage());
            Check.charge(x, 63, 64);
            x.convert();
            Check.equal(63, x.voltage());
            Check.charge(x, 65535, 0);
            x.convert();
            Check.equal(65535, x.voltage());
        });
    }

    private static void decisions() {
        Doc.term("Then the comparator decides: the weight is kept if (voltage + offset) is at least 16 * (code + "
            + "weight).", () -> {
                // Each row: the voltage, the offset, and the code with the weights 4 and 1.
                int[][] rows = {{63, 0, 1}, {64, 0, 4}, {79, 0, 4}, {80, 0, 5}, {15, 0, 0}, {16, 0, 1}, {62, 1, 1},
                    {63, 1, 4}, {64, -1, 1}, {65, -1, 4}, {79, 1, 5}, {80, -1, 4}, {0, 64, 4}, {0, 63, 1}, {0, -64, 0},
                    {128, -64, 4}, {127, -64, 1}, {79, -64, 0}, {80, -64, 1}};
                for (int[] row : rows) {
                    WeighingConverter x = Check.withWeights("4,1");
                    Check.charge(x, row[0], 0);
                    x.setOffset(row[1]);
                    Check.equal(row[2], x.convert());
                }
            });
        Doc.term("If the weight is kept, the code increases by it; otherwise it is taken back.", () -> {
            WeighingConverter x = Check.withWeights("2048,2048,2048,2048,2048,2048,2048,2048,2048,2048,2048,2048");
            for (int step = 0; step < 12; step++) {
                x.setGlitch(step);
            }
            Check.equal(12 * 2048, x.convert());
            Check.equal(0, x.convert());
            WeighingConverter y = Check.withWeights("9,5,9,3,9");
            Check.charge(y, 16 * 8, 0);
            Check.equal(5 + 3, y.convert());
            Check.equal(2 + 8, y.kept(0));
        });
    }

    private static void glitches() {
        Doc.term("If a glitch is set for this step, the decision is the opposite one.", () -> {
            WeighingConverter x = Check.withWeights("4");
            int[][] rows = {{0, 4}, {63, 4}, {64, 0}, {65535, 0}};
            for (int[] row : rows) {
                Check.charge(x, row[0], 0);
                x.setGlitch(0);
                Check.equal(row[1], x.convert());
            }
            WeighingConverter y = Check.withWeights("1,2,4");
            y.setGlitch(1);
            Check.equal(2, y.convert());
        });
        Doc.term("Glitches are set for steps 0 to 11; after a conversion no glitch is set any more.", () -> {
            WeighingConverter x = new WeighingConverter();
            Check.refusedIndex(x, () -> x.setGlitch(-1));
            Check.refusedIndex(x, () -> x.setGlitch(12));
            for (int step = 0; step < 12; step++) {
                Check.isTrue("not set at first", !x.setGlitch(step));
                Check.isTrue("set", x.setGlitch(step));
            }
            x.convert();
            Check.equal(0, x.nextCode());
            for (int step = 0; step < 12; step++) {
                Check.isTrue("not set after a conversion", !x.setGlitch(step));
            }
        });
    }

    private static void errorsAndIdeals() {
        Doc.term("The error of a conversion is 16 times its code minus the voltage at its beginning, before the first "
            + "tick.", () -> {
                WeighingConverter x = new WeighingConverter();
                Check.charge(x, 4095, 64);
                Check.equal(240, x.convert());
                Check.equal(16 * 240 - 4095, x.error(0));
            });
        Doc.term("An ideal conversion of a voltage is one with this voltage, without leak, offset and glitches.", () -> {
            WeighingConverter x = new WeighingConverter();
            Check.charge(x, 4095, 64);
            x.setOffset(64);
            x.setGlitch(0);
            Check.equal(100, x.ideal(1600));
            Check.equal(99, x.ideal(1599));
        });
        Doc.term("It does not change anything.", () -> {
            WeighingConverter x = Check.worn();
            List<Long> before = Check.seen(x);
            x.ideal(1600);
            x.ticksToChange();
            Check.equal(before, Check.seen(x));
        });
        Doc.term("they change nothing.", () -> {
            Check.equal(drained(Check.worn()), drained(afterForecasts(Check.worn())));
            Check.equal(settings(Check.worn()), settings(afterForecasts(Check.worn())));
        });
    }

    private static WeighingConverter afterForecasts(WeighingConverter x) {
        x.ideal(60000);
        x.nextCode();
        x.sums();
        x.leastMissing();
        x.mended(3);
        x.ticksToChange();
        x.ticksToSettle(60000);
        return x;
    }

    private static void log() {
        Doc.term("The log contains the latest conversions, at most 8 of them, the latest one first.", () -> {
            WeighingConverter x = new WeighingConverter();
            x.setCapacitor(16, 0);
            for (int code = 1; code <= 10; code++) {
                x.sample(16 * code, 1);
                x.convert();
                Check.equal(Math.min(code, 8), x.logged());
                for (int conversion = 0; conversion < x.logged(); conversion++) {
                    Check.equal(code - conversion, x.code(conversion));
                }
                Check.refusedIndex(x, () -> x.code(x.logged()));
            }
        });
        Doc.term("For each of them it contains the voltage at its beginning, the weights that were kept, and the code.",
            () -> {
                WeighingConverter x = new WeighingConverter();
                Check.charge(x, 1605, 0);
                x.convert();
                x.setOffset(64);
                x.setGlitch(0);
                Check.type(x, "9");
                x.load();
                x.sample(0, 1);
                Check.equal(100, x.code(0));
                Check.equal(2 + 4 + 32, x.kept(0));
                Check.equal(-5, x.error(0));
            });
    }

    private static void text() {
        Doc.term("The buffer contains at most 60 characters, and is empty at first.", () -> {
            WeighingConverter x = new WeighingConverter();
            Check.equal(0, x.clearText());
            for (int length = 1; length <= 60; length++) {
                Check.equal(length, x.append('1'));
            }
            Check.refusedState(x, () -> x.append('1'));
            Check.equal(60, x.clearText());
        });
        Doc.term("A weight text is 1 to 12 weights with \",\" between them; a weight is a number from 1 to 2048 "
            + "without leading zeros.", () -> {
                for (String fine : new String[] {"1", "9", "10", "99", "100", "999", "1000", "1999", "2000", "2047",
                    "2048", "1,2048", "7,7,7", TWELVE, "2048,2048,2048,2048,2048,2048,2048,2048,2048,2048,2048,2048"}) {
                    Check.isTrue(fine, isLoaded(fine));
                }
                for (String wrong : new String[] {"", "0", "01", "00", "2049", "2050", "2100", "3000", "9999", "10000",
                    "12048", ",", "1,", ",1", "1,,1", "1,0", "1,01", "1,2049", "1;1", "1.1", "+1", "-1", "1a", "a1",
                    TWELVE + ",", TWELVE + ",1", "4294967297", "1,4294967297"}) {
                    Check.isTrue(wrong, !isLoaded(wrong));
                }
            });
        Doc.term("A character of the buffer is an error if no weight text, however long, begins with the characters "
            + "before it and this character.", () -> {
                String elevenWeights = "1,1,1,1,1,1,1,1,1,1,1,";
                for (int code = 33; code <= 126; code++) {
                    boolean isDigit = code >= '0' && code <= '9';
                    Check.equal(isDigit && code != '0' ? 1 : 0, errorIn("", code));
                    Check.equal(isDigit || code == ',' ? 2 : 1, errorIn("1", code));
                    Check.equal(isDigit && code != '9' || code == ',' ? 4 : 3, errorIn("204", code));
                    Check.equal(isDigit && code != '0' ? 3 : 2, errorIn("1,", code));
                    Check.equal(code == ',' ? 5 : 4, errorIn("2048", code));
                    Check.equal(isDigit && code != '0' ? 23 : 22, errorIn(elevenWeights, code));
                    Check.equal(isDigit ? 24 : 23, errorIn(elevenWeights + "1", code));
                }
            });
    }

    private static boolean isLoaded(String text) {
        WeighingConverter x = new WeighingConverter();
        Check.type(x, text);
        try {
            x.load();
            return true;
        } catch (IllegalArgumentException e) {
            return false;
        }
    }

    private static int errorIn(String text, int lastCode) {
        WeighingConverter x = new WeighingConverter();
        Check.type(x, text);
        x.append(lastCode);
        return x.firstError();
    }

    private static void undo() {
        Doc.term("The state consists of everything except the buffer and the saved states.", () -> {
            WeighingConverter x = Check.worn();
            List<Long> before = Check.seenState(x);
            List<Long> settingsBefore = settings(Check.worn());
            x.clearText();
            Check.equal(before, Check.seenState(x));
            x.sample(9, 9);
            Check.type(x, "12345");
            Check.equal(5, x.undo());
            Check.equal(before, Check.seenState(x));
            Check.equal(5, x.clearText());
            x.setCapacitor(1, 64);
            Check.equal(5, x.undo());
            Check.equal(settingsBefore, settings(x));
        });
        Doc.term("Each method that is marked \"Undoable\" saves the state from before the call if it does not throw an "
            + "exception, even if nothing changes.", () -> {
                Check.Call[] idle = {x -> x.sample(0, 99), x -> x.hold(99), x -> x.setCapacitor(8, 0),
                    x -> x.setOffset(0), x -> x.setGlitch(3), x -> x.setWeight(0, 1), WeighingConverter::sortWeights,
                    WeighingConverter::load};
                for (Check.Call call : idle) {
                    WeighingConverter x = Check.withWeights("1");
                    x.setGlitch(3);
                    Check.type(x, "1");
                    List<Long> before = Check.seenState(x);
                    call.on(x);
                    Check.equal(before, Check.seenState(x));
                    Check.equal(3, x.savedStates());
                    Check.equal(2, x.undo());
                    Check.equal(before, Check.seenState(x));
                }
                WeighingConverter full = new WeighingConverter();
                for (int count = 0; count < 9; count++) {
                    full.convert();
                }
                full.undo();
                List<Long> before = Check.seenState(full);
                full.convert();
                Check.equal(6, full.savedStates());
                full.undo();
                Check.equal(before, Check.seenState(full));
            });
        Doc.term("At most 6 states are saved; when one more is saved, the oldest one is discarded.", () -> {
            for (int calls = 1; calls <= 20; calls++) {
                WeighingConverter x = new WeighingConverter();
                for (int offset = 1; offset <= calls; offset++) {
                    x.setOffset(offset);
                    Check.equal(Math.min(offset, 6), x.savedStates());
                }
                Check.undoAll(x);
                Check.refusedState(x, x::undo);
                Check.equal(Math.max(calls - 6, 0), x.setOffset(0));
            }
        });
    }

    private static void exceptions() {
        Doc.term("A call that throws an exception changes nothing.", () -> {
            for (Check.Call call : refusedCalls()) {
                for (String weights : new String[] {"", "1", TWELVE}) {
                    Check.equal(drained(ready(weights)), drained(afterRefusal(ready(weights), call)));
                    Check.equal(settings(ready(weights)), settings(afterRefusal(ready(weights), call)));
                }
            }
        });
        Doc.term("If more than one exception applies to a call, the one that is listed first in its throws clause is "
            + "thrown.", () -> {
                WeighingConverter one = Check.withWeights("1");
                Check.refusedIndex(one, () -> one.removeWeight(1));
                Check.refusedIndex(one, () -> one.removeWeight(-1));
                Check.refusedIndex(one, () -> one.setWeight(1, 0));
                Check.refusedIndex(one, () -> one.setWeight(-1, 2049));
                Check.refusedIndex(one, () -> one.insertWeight(2, 0));
                WeighingConverter full = Check.withWeights(TWELVE);
                Check.refusedIndex(full, () -> full.insertWeight(13, 1));
                Check.refusedIndex(full, () -> full.insertWeight(-1, 2049));
                Check.refusedArgument(full, () -> full.insertWeight(12, 0));
                Check.refusedArgument(full, () -> full.insertWeight(0, 2049));
                Check.type(full, "1".repeat(60));
                Check.refusedArgument(full, () -> full.append(32));
                Check.refusedArgument(full, () -> full.append(127));
            });
    }

    /** A worn converter with other weights ("" keeps its own), and a buffer that is full of errors. */
    private static WeighingConverter ready(String weights) {
        WeighingConverter x = Check.worn();
        x.clearText();
        if (!weights.isEmpty()) {
            Check.type(x, weights);
            x.load();
        }
        Check.type(x, "12," + "7".repeat(57));
        return x;
    }

    /** Calls that each converter of ready() refuses, whatever its weights. */
    private static Check.Call[] refusedCalls() {
        return new Check.Call[] {
            x -> x.sample(-1, 1), x -> x.sample(65536, 1), x -> x.sample(9, 0), x -> x.sample(9, 100),
            x -> x.hold(0), x -> x.hold(100),
            x -> x.setCapacitor(0, 7), x -> x.setCapacitor(17, 7), x -> x.setCapacitor(7, -1), x -> x.setCapacitor(7, 65),
            x -> x.setOffset(-65), x -> x.setOffset(65), x -> x.setGlitch(-1), x -> x.setGlitch(12),
            x -> x.setWeight(-1, 9), x -> x.setWeight(x.weights(), 9), x -> x.setWeight(0, 0), x -> x.setWeight(0, 2049),
            x -> x.insertWeight(-1, 9), x -> x.insertWeight(x.weights() + 1, 9), x -> x.insertWeight(0, 0),
            x -> x.insertWeight(0, 2049), x -> x.insertWeight(x.weights() < 12 ? -1 : 0, 9),
            x -> x.removeWeight(-1), x -> x.removeWeight(x.weights()), x -> x.removeWeight(x.weights() > 1 ? -1 : 0),
            x -> x.weight(-1), x -> x.weight(x.weights()),
            x -> x.code(-1), x -> x.code(8), x -> x.kept(-1), x -> x.kept(8), x -> x.error(-1), x -> x.error(8),
            x -> x.ideal(-1), x -> x.ideal(65536), x -> x.mended(-1), x -> x.mended(x.weights()),
            x -> x.ticksToSettle(-1), x -> x.ticksToSettle(65536),
            x -> x.append(32), x -> x.append(127), x -> x.append('1'), WeighingConverter::load};
    }

    private static WeighingConverter afterRefusal(WeighingConverter x, Check.Call call) {
        boolean isRefused = false;
        try {
            call.on(x);
        } catch (IllegalArgumentException | IndexOutOfBoundsException | IllegalStateException e) {
            isRefused = true;
        }
        Check.isTrue("the call is refused", isRefused);
        return x;
    }

    /** All that can be seen, then in each state that undo brings back; the object is spent afterwards. */
    private static List<Long> drained(WeighingConverter x) {
        List<Long> all = new ArrayList<>(Check.seen(x));
        all.add((long) x.clearText());
        for (int left = x.savedStates(); left > 0; left--) {
            all.add((long) x.undo());
            all.addAll(Check.seen(x));
        }
        return all;
    }

    /** The settings that only a call which changes them answers; the object is spent afterwards. */
    private static List<Long> settings(WeighingConverter x) {
        List<Long> all = new ArrayList<>();
        all.add((long) x.setOffset(0));
        for (int step = 0; step < 12; step++) {
            all.add(x.setGlitch(step) ? 1L : 0L);
        }
        x.sample(65535, 99);
        all.add((long) x.hold(1));
        all.add((long) x.setCapacitor(16, 0));
        return all;
    }
}
