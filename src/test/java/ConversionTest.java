/** Promises 15 to 20: conversions and their log. */
final class ConversionTest {
    private static final String NOT_THERE =
        "Throws `IndexOutOfBoundsException` if there is no such conversion in the log";

    private interface Reading {
        int of(WeighingConverter x, int conversion);
    }

    static void run() {
        converting();
        counting();
        codes();
        kept();
        errors();
        means();
    }

    private static void converting() {
        Doc.promise(15, "Makes a conversion.", () -> {
            WeighingConverter x = Check.withWeights("128,64,32,32,16,8,4,2,1");
            Check.charge(x, 1600, 0);
            Check.equal(100, x.convert());
            x.setGlitch(0);
            Check.equal(128, x.convert());
            x.setGlitch(1);
            Check.equal(95, x.convert());
            Check.equal(4 + 8 + 16 + 32 + 64 + 128 + 256, x.kept(0));
            Check.charge(x, 1616, 0);
            x.setGlitch(2);
            Check.equal(101, x.convert()); // the second 32 mends it
            Check.equal(4, x.logged());
        });
        Check.test("promise 15: changes nothing but the voltage, the glitches and the log", () -> {
            WeighingConverter x = new WeighingConverter();
            x.setOffset(-5);
            Check.charge(x, 1605, 0);
            Check.type(x, "12");
            Check.equal(100, x.convert());
            Check.equal(4, x.savedStates());
            Check.equal(16, x.setCapacitor(3, 3));
            Check.equal(-5, x.setOffset(0));
            Check.weightsAre(x, 128, 64, 32, 16, 8, 4, 2, 1);
            Check.equal(2, x.clearText());
        });
        Check.undoable(15, WeighingConverter::convert);
        Doc.promise(15, "Returns its code.", () -> {
            WeighingConverter x = new WeighingConverter();
            for (int code = 0; code <= 255; code += 15) {
                Check.charge(x, 16 * code, 0);
                Check.equal(code, x.convert());
                Check.equal(code, x.code(0));
                Check.charge(x, 16 * code + 15, 0);
                Check.equal(code, x.convert());
            }
            Check.charge(x, 65535, 0);
            Check.equal(255, x.convert());
        });
    }

    private static void counting() {
        Doc.promise(16, "Returns the number of conversions in the log.", () -> {
            WeighingConverter x = new WeighingConverter();
            Check.equal(0, x.logged());
            for (int count = 1; count <= 20; count++) {
                x.convert();
                Check.equal(Math.min(count, 8), x.logged());
            }
            x.nextCode();
            x.ideal(77);
            Check.equal(8, x.logged());
            x.undo();
            Check.equal(8, x.logged());
            WeighingConverter y = new WeighingConverter();
            y.nextCode();
            Check.equal(0, y.logged());
            y.convert();
            y.undo();
            Check.equal(0, y.logged());
        });
    }

    /** Ten conversions, with the codes 10, 9, .. 1 (the latest one first) and the errors -10, -9, .. -1. */
    private static WeighingConverter withTen() {
        WeighingConverter x = new WeighingConverter();
        x.setCapacitor(16, 0);
        for (int code = 1; code <= 10; code++) {
            x.sample(17 * code, 1);
            Check.equal(code, x.convert());
        }
        return x;
    }

    /** An empty log, one that fills, a full one, and numbers far away. */
    private static void refusedWhereNothingIs(Reading reading) {
        WeighingConverter x = new WeighingConverter();
        for (int count = 0; count <= 9; count++) {
            int past = Math.min(count, 8);
            Check.refusedIndex(x, () -> reading.of(x, past));
            Check.refusedIndex(x, () -> reading.of(x, 8));
            Check.refusedIndex(x, () -> reading.of(x, -1));
            x.convert();
        }
        for (int far : Check.FAR) {
            Check.refusedIndex(x, () -> reading.of(x, far));
        }
        WeighingConverter undone = new WeighingConverter();
        undone.convert();
        undone.undo();
        Check.refusedIndex(undone, () -> reading.of(undone, 0));
    }

    private static void codes() {
        Doc.promise(17, "Returns the code of a conversion of the log.", () -> {
            WeighingConverter x = new WeighingConverter();
            Check.charge(x, 1600, 0);
            x.convert();
            Check.equal(100, x.code(0));
            x.sample(0, 1);
            x.setWeight(0, 1);
            Check.equal(100, x.code(0));
        });
        Doc.promise(17, "`conversion`: 0 for the latest one", () -> {
            WeighingConverter x = withTen();
            Check.equal(10, x.code(0));
            Check.equal(9, x.code(1));
            Check.equal(3, x.code(7));
        });
        Doc.promise(17, "Returns its code.", () -> {
            WeighingConverter x = Check.withWeights("2048,2048,2048,2048,2048,2048,2048,2048,2048,2048,2048,2048");
            x.convert();
            for (int step = 0; step < 12; step++) {
                x.setGlitch(step);
            }
            x.convert();
            Check.equal(0, x.code(1));
            Check.equal(24576, x.code(0));
        });
        Doc.promise(17, NOT_THERE, () -> refusedWhereNothingIs(WeighingConverter::code));
    }

    private static void kept() {
        Doc.promise(18, "Returns the weights that were kept in a conversion of the log.", () -> {
            WeighingConverter x = new WeighingConverter();
            Check.charge(x, 1600, 0);
            x.convert();
            Check.equal(2 + 4 + 32, x.kept(0));
            x.removeWeight(0);
            Check.equal(2 + 4 + 32, x.kept(0));
            x.convert();
            Check.equal(1 + 2 + 16, x.kept(0));
            Check.equal(2 + 4 + 32, x.kept(1));
        });
        Doc.promise(18, "`conversion`: 0 for the latest one", () -> {
            WeighingConverter x = withTen();
            Check.equal(64 + 16, x.kept(0)); // 10 is 2 and 8
            Check.equal(128 + 16, x.kept(1)); // 9 is 1 and 8
            Check.equal(128 + 64, x.kept(7)); // 3 is 1 and 2
        });
        Doc.promise(18, "Returns a bit mask: bit k is set if the weight with the number k was kept.", () -> {
            WeighingConverter x = Check.withWeights("1,1,1,1,1,1,1,1,1,1,1,1");
            Check.equal(0, x.convert());
            Check.equal(0, x.kept(0));
            for (int step = 0; step < 12; step++) {
                x.setGlitch(step);
                x.convert();
                Check.equal(1 << step, x.kept(0));
            }
            Check.charge(x, 16 * 12, 0);
            x.convert();
            Check.equal(4095, x.kept(0));
        });
        Doc.promise(18, NOT_THERE, () -> refusedWhereNothingIs(WeighingConverter::kept));
    }

    private static void errors() {
        Doc.promise(19, "Returns the error of a conversion of the log.", () -> {
            WeighingConverter x = new WeighingConverter();
            Check.charge(x, 7, 0);
            x.convert();
            Check.equal(-7, x.error(0));
            x.setGlitch(0);
            x.convert();
            Check.equal(16 * 128 - 7, x.error(0));
            x.setWeight(0, 1);
            x.setOffset(64);
            x.sample(0, 1);
            Check.equal(16 * 128 - 7, x.error(0));
        });
        Doc.promise(19, "`conversion`: 0 for the latest one", () -> {
            WeighingConverter x = withTen();
            Check.equal(-10, x.error(0));
            Check.equal(-9, x.error(1));
            Check.equal(-3, x.error(7));
        });
        Doc.promise(19, "Returns its error, in sixteenths of a step.", () -> {
            WeighingConverter x = new WeighingConverter();
            Check.charge(x, 4095, 64);
            x.convert();
            Check.equal(-255, x.error(0));
            Check.charge(x, 1600, 0);
            x.convert();
            Check.equal(0, x.error(0));
            Check.charge(x, 65535, 0);
            x.convert();
            Check.equal(16 * 255 - 65535, x.error(0));
            x.setOffset(64);
            x.sample(0, 1);
            x.convert();
            Check.equal(64, x.error(0));
        });
        Doc.promise(19, NOT_THERE, () -> refusedWhereNothingIs(WeighingConverter::error));
    }

    private static void means() {
        Doc.promise(20, "Returns the mean error of the log.", () -> {
            WeighingConverter x = new WeighingConverter();
            Check.charge(x, 7, 0);
            x.convert();
            Check.equal(-7.0, x.meanError());
            x.sample(16, 1);
            x.convert();
            Check.equal(-3.5, x.meanError());
        });
        Doc.promise(20, "Returns the sum of the errors of all conversions of the log, as a double, divided by their "
            + "number, as a double; 0.0 if the log is empty.", () -> {
                WeighingConverter x = new WeighingConverter();
                Check.equal(0.0, x.meanError());
                x.convert();
                Check.equal(0.0, x.meanError());
                Check.charge(x, 7, 0);
                x.convert();
                Check.equal(-3.5, x.meanError());
                x.sample(16, 1);
                x.convert();
                Check.equal(-7.0 / 3.0, x.meanError());
                x.setOffset(64);
                x.convert();
                Check.equal(57.0 / 4.0, x.meanError());
                for (int count = 0; count < 4; count++) {
                    x.undo();
                }
                Check.equal(-3.5, x.meanError());
            });
        Check.test("promise 20: the errors of the latest eight conversions count, all of them and no other", () ->
            Check.equal(-(10 + 9 + 8 + 7 + 6 + 5 + 4 + 3) / 8.0, withTen().meanError()));
    }
}
