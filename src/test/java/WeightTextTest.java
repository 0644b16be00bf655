/** Promises 28 to 31: the buffer and its weight text. */
final class WeightTextTest {
    private static final String TWELVE = "2048,2048,2048,2048,2048,2048,2048,2048,2048,2048,2048,2048";

    static void run() {
        buffer();
        errors();
        loading();
    }

    private static void buffer() {
        Check.test("promise 28: appends any character from 33 to 126, up to 60 of them", () -> {
            WeighingConverter x = new WeighingConverter();
            for (int length = 1; length <= 60; length++) {
                Check.equal(length, x.append(length % 2 == 0 ? 33 : 126));
            }
            Check.refusedState(x, () -> x.append(49));
            Check.refusedArgument(x, () -> x.append(32));
            Check.equal(0, x.savedStates());
            Check.equal(60, x.clearText());
        });
        Check.test("promise 28: wrong codes are refused", () -> {
            WeighingConverter x = new WeighingConverter();
            for (int code : new int[] {32, 127, 0, -1, 65536 + 49, Integer.MIN_VALUE, Integer.MAX_VALUE}) {
                Check.refusedArgument(x, () -> x.append(code));
            }
            Check.equal(1, x.append('1'));
        });
        Check.test("promise 29: empties the buffer", () -> {
            WeighingConverter x = new WeighingConverter();
            Check.equal(0, x.clearText());
            Check.type(x, "xyz");
            Check.equal(3, x.clearText());
            Check.equal(0, x.clearText());
            Check.equal(0, x.firstError());
            Check.equal(1, x.append('5'));
            Check.equal(1, x.load());
            Check.weightsAre(x, 5);
        });
        Check.test("promise 29: is not saved and not undone", () -> {
            WeighingConverter x = new WeighingConverter();
            x.setOffset(1);
            Check.type(x, "12");
            x.clearText();
            Check.equal(1, x.savedStates());
            x.append('3');
            x.undo();
            Check.equal(1, x.clearText());
        });
    }

    private static void errorAt(int index, String text) {
        WeighingConverter x = new WeighingConverter();
        Check.type(x, text);
        Check.equal(index, x.firstError());
        Check.equal(text.length(), x.clearText());
    }

    private static void errors() {
        Check.test("promise 30: no error in beginnings of weight texts", () -> {
            for (String text : new String[] {"", "1", "12,", "2048", "9,10,", "205", "999", "1999,", TWELVE}) {
                errorAt(text.length(), text);
            }
        });
        Check.test("promise 30: the first error", () -> {
            errorAt(0, ",");
            errorAt(0, "0");
            errorAt(0, "05");
            errorAt(0, "x1");
            errorAt(1, "1x0,,");
            errorAt(2, "3,,");
            errorAt(2, "3,0");
            errorAt(3, "2049");
            errorAt(3, "2050");
            errorAt(3, "3000");
            errorAt(4, "10000");
            errorAt(4, "2048/");
            errorAt(4, "2048:");
            errorAt(1, "1-2");
            errorAt(1, "1;2");
            errorAt(0, "+1");
        });
        Check.test("promise 30: a comma behind the twelfth weight is an error", () -> {
            errorAt(23, "1,1,1,1,1,1,1,1,1,1,1,1,1");
            errorAt(59, TWELVE + ",");
            errorAt(59, TWELVE + "0");
        });
    }

    private static void loading() {
        Check.test("promise 31: replaces all weights, empties the buffer, is saved", () -> {
            WeighingConverter x = new WeighingConverter();
            Check.type(x, "3,2048,10,1");
            Check.equal(4, x.load());
            Check.weightsAre(x, 3, 2048, 10, 1);
            Check.equal(0, x.clearText());
            Check.equal(1, x.savedStates());
            x.undo();
            Check.weightsAre(x, 128, 64, 32, 16, 8, 4, 2, 1);
            Check.equal(0, x.clearText());
            Check.equal(12, Check.withWeights(TWELVE).weights());
        });
        Check.test("promise 31: leaves all but the weights", () -> {
            WeighingConverter x = new WeighingConverter();
            Check.charge(x, 500, 3);
            x.convert();
            x.setOffset(7);
            x.setGlitch(4);
            Check.type(x, "9");
            x.load();
            Check.equal(500, x.voltage());
            Check.equal(1, x.logged());
            Check.equal(7, x.setOffset(0));
            Check.isTrue("the glitch stays", x.setGlitch(4));
            Check.equal(16, x.setCapacitor(1, 1));
        });
        Check.test("promise 31: what is no complete weight text is refused and stays", () -> {
            for (String text : new String[] {"", "3,", ",", "0", "3,0", "2049", "1,x", "07", TWELVE + ",",
                "1,1,1,1,1,1,1,1,1,1,1,1,1"}) {
                WeighingConverter x = new WeighingConverter();
                Check.type(x, text);
                Check.refusedArgument(x, x::load);
                Check.equal(text.length(), x.clearText());
            }
        });
        Check.test("promise 31: a text that was refused can be completed", () -> {
            WeighingConverter x = new WeighingConverter();
            Check.type(x, "3,");
            Check.refusedArgument(x, x::load);
            x.append('4');
            Check.equal(2, x.load());
            Check.weightsAre(x, 3, 4);
        });
    }
}
