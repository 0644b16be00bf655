/** Promises 28 to 31: the buffer and its weight text. */
final class WeightTextTest {
    private static final String TWELVE = "2048,2048,2048,2048,2048,2048,2048,2048,2048,2048,2048,2048";

    static void run() {
        appending();
        appendingRefused();
        clearing();
        errors();
        loading();
        loadingRefused();
    }

    private static void appending() {
        Doc.promise(28, "Appends a character to the buffer.", () -> {
            WeighingConverter x = new WeighingConverter();
            Check.type(x, "30,4");
            Check.equal(2, x.load());
            Check.weightsAre(x, 30, 4);
        });
        Doc.promise(28, "`code`: a character code, 33 to 126", () -> {
            WeighingConverter x = new WeighingConverter();
            for (int code = 33; code <= 126; code++) {
                Check.equal(1, x.append(code));
                x.clearText();
            }
            Check.refusedArgument(x, () -> x.append(32));
            Check.refusedArgument(x, () -> x.append(127));
        });
        Doc.promise(28, "Returns the new length of the buffer.", () -> {
            WeighingConverter x = new WeighingConverter();
            for (int length = 1; length <= 60; length++) {
                Check.equal(length, x.append(length % 2 == 0 ? 33 : 126));
            }
            x.clearText();
            Check.equal(1, x.append('1'));
        });
    }

    private static void appendingRefused() {
        Doc.promise(28, "Throws `IllegalArgumentException` if code is out of range", () -> {
            WeighingConverter x = new WeighingConverter();
            for (int far : Check.FAR) {
                Check.refusedArgument(x, () -> x.append(far));
            }
            for (int code : new int[] {0, -1, 65536 + 49, -65536 + 49, 256 + 49}) {
                Check.refusedArgument(x, () -> x.append(code));
            }
            Check.equal(1, x.append('1'));
        });
        Doc.promise(28, "Throws `IllegalStateException` if the buffer contains 60 characters", () -> {
            WeighingConverter x = new WeighingConverter();
            Check.type(x, TWELVE); // 59 characters
            Check.equal(60, x.append('!'));
            for (int code = 33; code <= 126; code++) {
                int full = code;
                Check.refusedState(x, () -> x.append(full));
            }
            Check.refusedArgument(x, () -> x.append(32));
            Check.refusedArgument(x, () -> x.append(127));
            Check.equal(60, x.clearText());
            Check.equal(1, x.append('1'));
        });
    }

    private static void clearing() {
        Doc.promise(29, "Empties the buffer.", () -> {
            WeighingConverter x = new WeighingConverter();
            Check.type(x, "xyz");
            x.clearText();
            Check.equal(0, x.firstError());
            Check.refusedArgument(x, x::load);
            Check.equal(1, x.append('5'));
            Check.equal(1, x.load());
            Check.weightsAre(x, 5);
        });
        Doc.promise(29, "Returns the length that it had.", () -> {
            WeighingConverter x = new WeighingConverter();
            Check.equal(0, x.clearText());
            Check.type(x, "xyz");
            Check.equal(3, x.clearText());
            Check.equal(0, x.clearText());
            Check.type(x, "1".repeat(60));
            Check.equal(60, x.clearText());
            Check.equal(0, x.clearText());
        });
        Check.test("promise 29: is not saved and not undone", () -> {
            WeighingConverter x = new WeighingConverter();
            x.setOffset(1);
            Check.type(x, "12");
            x.clearText();
            Check.equal(1, x.savedStates());
            x.append('3');
            x.undo();
            Check.equal(1, x.clearText());
        });
    }

    private static void errorAt(int index, String text) {
        WeighingConverter x = new WeighingConverter();
        Check.type(x, text);
        Check.equal(index, x.firstError());
        Check.equal(text.length(), x.clearText());
    }

    private static void errors() {
        Doc.promise(30, "Finds the first error of the buffer.", () -> {
            errorAt(0, "x1");
            errorAt(1, "1x0,,");
            errorAt(2, "3,,0x");
            errorAt(3, "30,a,b");
        });
        Doc.promise(30, "Returns the index of the first character that is an error; the length of the buffer if there is "
            + "none (also if the buffer is not a complete weight text).", () -> {
                for (String text : new String[] {"", "1", "12,", "2048", "9,10,", "205", "999", "1999,", TWELVE,
                    "1,1,1,1,1,1,1,1,1,1,1,", "1,1,1,1,1,1,1,1,1,1,1,1"}) {
                    errorAt(text.length(), text);
                }
                errorAt(0, "x");
                errorAt(59, TWELVE + ",");
                errorAt(0, "x".repeat(60));
            });
        Check.test("promise 30: where a size is no number from 1 to 2048 without leading zeros", () -> {
            errorAt(0, "0");
            errorAt(0, "05");
            errorAt(2, "3,0");
            errorAt(3, "2049");
            errorAt(3, "2050");
            errorAt(3, "3000");
            errorAt(4, "10000");
            errorAt(4, "20480");
            errorAt(3, "999999999999999999999999999999999999999999999999999999999999");
            errorAt(3, "429496729700");
            errorAt(58, TWELVE.substring(0, 58) + "9");
        });
        Check.test("promise 30: where a sign is no digit and no comma", () -> {
            errorAt(4, "2048/");
            errorAt(4, "2048:");
            errorAt(1, "1-2");
            errorAt(1, "1;2");
            errorAt(0, "+1");
        });
        Check.test("promise 30: a comma at the beginning, behind another one, and behind the twelfth weight", () -> {
            errorAt(0, ",");
            errorAt(0, ",1");
            errorAt(2, "1,,1");
            errorAt(23, "1,1,1,1,1,1,1,1,1,1,1,1,1");
            errorAt(59, TWELVE + "0");
        });
    }

    private static void loading() {
        Doc.promise(31, "Replaces all weights by those of the buffer, and empties the buffer.", () -> {
            WeighingConverter x = new WeighingConverter();
            Check.type(x, "3,2048,10,1");
            x.load();
            Check.weightsAre(x, 3, 2048, 10, 1);
            Check.equal(0, x.clearText());
            Check.type(x, "7");
            x.load();
            Check.weightsAre(x, 7);
            Check.type(x, TWELVE);
            x.load();
            Check.weightsAre(x, 2048, 2048, 2048, 2048, 2048, 2048, 2048, 2048, 2048, 2048, 2048, 2048);
        });
        Check.test("promise 31: leaves all but the weights", () -> {
            WeighingConverter x = new WeighingConverter();
            Check.charge(x, 500, 3);
            x.convert();
            x.setOffset(7);
            x.setGlitch(4);
            Check.type(x, "9");
            x.load();
            Check.equal(500, x.voltage());
            Check.equal(1, x.logged());
            Check.equal(7, x.setOffset(0));
            Check.isTrue("the glitch stays", x.setGlitch(4));
            Check.equal(16, x.setCapacitor(1, 1));
        });
        Check.undoable(31, x -> x.load());
        Check.test("promise 31: undo brings the weights back, but not the buffer", () -> {
            WeighingConverter x = new WeighingConverter();
            Check.type(x, "3,4");
            x.load();
            x.undo();
            Check.weightsAre(x, 128, 64, 32, 16, 8, 4, 2, 1);
            Check.equal(0, x.clearText());
        });
        Doc.promise(31, "Returns the number of weights.", () -> {
            StringBuilder text = new StringBuilder("1");
            for (int count = 1; count <= 12; count++) {
                WeighingConverter x = new WeighingConverter();
                Check.type(x, text.toString());
                Check.equal(count, x.load());
                Check.equal(count, x.weights());
                text.append(",1");
            }
        });
    }

    private static void loadingRefused() {
        Doc.promise(31, "Throws `IllegalArgumentException` if the buffer is not a complete weight text (the buffer stays)",
            () -> {
                for (String text : new String[] {"", "3,", ",", "0", "3,0", "2049", "1,x", "07", "x", "3,,", TWELVE + ",",
                    "1,1,1,1,1,1,1,1,1,1,1,", "1,1,1,1,1,1,1,1,1,1,1,1,", "1,1,1,1,1,1,1,1,1,1,1,1,1", "1".repeat(60)}) {
                    WeighingConverter x = new WeighingConverter();
                    Check.type(x, text);
                    Check.refusedArgument(x, x::load);
                    Check.equal(text.length(), x.clearText());
                    Check.equal(0, x.savedStates());
                }
            });
        Check.test("promise 31: a text that was refused can be completed", () -> {
            WeighingConverter x = new WeighingConverter();
            Check.refusedArgument(x, x::load);
            Check.type(x, "3,");
            Check.refusedArgument(x, x::load);
            x.append('4');
            Check.equal(2, x.load());
            Check.weightsAre(x, 3, 4);
            Check.refusedArgument(x, x::load);
        });
    }
}
