/** Promises 8 to 14: the weights. */
final class WeightsTest {
    private static final String TWELVE = "1,2,3,4,5,6,7,8,9,10,11,12";

    static void run() {
        changing();
        changingRefused();
        inserting();
        insertingRefused();
        removing();
        sorting();
        reading();
    }

    private static void changing() {
        Doc.promise(8, "Changes a weight.", () -> {
            WeighingConverter x = new WeighingConverter();
            x.setWeight(3, 100);
            Check.weightsAre(x, 128, 64, 32, 100, 8, 4, 2, 1);
            x.setWeight(3, 7);
            Check.weightsAre(x, 128, 64, 32, 7, 8, 4, 2, 1);
        });
        Check.undoable(8, x -> x.setWeight(1, 9));
        Doc.promise(8, "`weight`: its number", () -> {
            WeighingConverter x = new WeighingConverter();
            x.setWeight(0, 10);
            x.setWeight(7, 20);
            Check.weightsAre(x, 10, 64, 32, 16, 8, 4, 2, 20);
            Check.refusedIndex(x, () -> x.setWeight(8, 1));
            Check.refusedIndex(x, () -> x.setWeight(-1, 1));
        });
        Doc.promise(8, "`steps`: 1 to 2048", () -> {
            WeighingConverter x = new WeighingConverter();
            x.setWeight(0, 1);
            x.setWeight(1, 2048);
            Check.weightsAre(x, 1, 2048, 32, 16, 8, 4, 2, 1);
            Check.refusedArgument(x, () -> x.setWeight(0, 0));
            Check.refusedArgument(x, () -> x.setWeight(0, 2049));
        });
        Doc.promise(8, "Returns its previous size.", () -> {
            WeighingConverter x = new WeighingConverter();
            Check.equal(128, x.setWeight(0, 2048));
            Check.equal(2048, x.setWeight(0, 1));
            Check.equal(1, x.setWeight(0, 1));
            Check.equal(1, x.setWeight(7, 3));
        });
    }

    private static void changingRefused() {
        Doc.promise(8, "Throws `IndexOutOfBoundsException` if there is no such weight", () -> {
            WeighingConverter x = new WeighingConverter();
            for (int far : Check.FAR) {
                Check.refusedIndex(x, () -> x.setWeight(far, 1));
                Check.refusedIndex(x, () -> x.setWeight(far, 0));
            }
            x.removeWeight(7);
            Check.refusedIndex(x, () -> x.setWeight(7, 1));
            WeighingConverter one = Check.withWeights("1");
            Check.refusedIndex(one, () -> one.setWeight(1, 1));
            WeighingConverter full = Check.withWeights(TWELVE);
            Check.equal(12, full.setWeight(11, 1));
            Check.refusedIndex(full, () -> full.setWeight(12, 1));
        });
        Doc.promise(8, "Throws `IllegalArgumentException` if steps is out of range", () -> {
            WeighingConverter x = new WeighingConverter();
            Check.refusedArgument(x, () -> x.setWeight(7, -1));
            for (int far : Check.FAR) {
                Check.refusedArgument(x, () -> x.setWeight(7, far));
                Check.refusedIndex(x, () -> x.setWeight(8, far));
            }
        });
    }

    private static void inserting() {
        Doc.promise(9, "Inserts a weight.", () -> {
            WeighingConverter x = Check.withWeights("7");
            x.insertWeight(0, 1);
            x.insertWeight(2, 2048);
            x.insertWeight(1, 5);
            Check.weightsAre(x, 1, 5, 7, 2048);
        });
        Check.undoable(9, x -> x.insertWeight(0, 9));
        Doc.promise(9, "`weight`: the number that it gets, 0 to the number of weights", () -> {
            WeighingConverter x = new WeighingConverter();
            x.insertWeight(0, 9);
            Check.weightsAre(x, 9, 128, 64, 32, 16, 8, 4, 2, 1);
            x.insertWeight(9, 10);
            Check.weightsAre(x, 9, 128, 64, 32, 16, 8, 4, 2, 1, 10);
            Check.refusedIndex(x, () -> x.insertWeight(-1, 9));
            Check.refusedIndex(x, () -> x.insertWeight(11, 9));
        });
        Doc.promise(9, "`steps`: 1 to 2048", () -> {
            WeighingConverter x = Check.withWeights("7");
            x.insertWeight(1, 1);
            x.insertWeight(1, 2048);
            Check.weightsAre(x, 7, 2048, 1);
            Check.refusedArgument(x, () -> x.insertWeight(1, 0));
            Check.refusedArgument(x, () -> x.insertWeight(1, 2049));
        });
        Doc.promise(9, "Returns the number of weights after the call.", () -> {
            WeighingConverter x = Check.withWeights("7");
            for (int count = 2; count <= 12; count++) {
                Check.equal(count, x.insertWeight(1, count));
                Check.equal(count, x.weights());
            }
            Check.weightsAre(x, 7, 12, 11, 10, 9, 8, 7, 6, 5, 4, 3, 2);
        });
    }

    private static void insertingRefused() {
        Doc.promise(9, "Throws `IndexOutOfBoundsException` if weight is out of range", () -> {
            WeighingConverter x = new WeighingConverter();
            Check.refusedIndex(x, () -> x.insertWeight(9, 1));
            for (int far : Check.FAR) {
                Check.refusedIndex(x, () -> x.insertWeight(far, 1));
                Check.refusedIndex(x, () -> x.insertWeight(far, far));
            }
            WeighingConverter full = Check.withWeights(TWELVE);
            Check.refusedIndex(full, () -> full.insertWeight(13, 1));
            Check.refusedIndex(full, () -> full.insertWeight(-1, 1));
        });
        Doc.promise(9, "Throws `IllegalArgumentException` if steps is out of range", () -> {
            WeighingConverter x = new WeighingConverter();
            Check.refusedArgument(x, () -> x.insertWeight(8, -1));
            for (int far : Check.FAR) {
                Check.refusedArgument(x, () -> x.insertWeight(8, far));
                Check.refusedIndex(x, () -> x.insertWeight(9, far));
            }
        });
        Doc.promise(9, "Throws `IllegalStateException` if there are 12 weights", () -> {
            WeighingConverter x = Check.withWeights("1,2,3,4,5,6,7,8,9,10,11");
            Check.equal(12, x.insertWeight(11, 12));
            for (int number = 0; number <= 12; number++) {
                int weight = number;
                Check.refusedState(x, () -> x.insertWeight(weight, 1));
                Check.refusedState(x, () -> x.insertWeight(weight, 2048));
                Check.refusedArgument(x, () -> x.insertWeight(weight, 0));
            }
            Check.refusedIndex(x, () -> x.insertWeight(13, 0));
            x.removeWeight(0);
            Check.equal(12, x.insertWeight(0, 1));
        });
    }

    private static void removing() {
        Doc.promise(10, "Removes a weight.", () -> {
            WeighingConverter x = new WeighingConverter();
            x.removeWeight(2);
            Check.weightsAre(x, 128, 64, 16, 8, 4, 2, 1);
            x.removeWeight(2);
            Check.weightsAre(x, 128, 64, 8, 4, 2, 1);
        });
        Check.undoable(10, x -> x.removeWeight(0));
        Doc.promise(10, "`weight`: its number", () -> {
            WeighingConverter x = Check.withWeights(TWELVE);
            x.removeWeight(0);
            x.removeWeight(10);
            Check.weightsAre(x, 2, 3, 4, 5, 6, 7, 8, 9, 10, 11);
            Check.refusedIndex(x, () -> x.removeWeight(-1));
            Check.refusedIndex(x, () -> x.removeWeight(10));
        });
        Doc.promise(10, "Returns its size.", () -> {
            WeighingConverter x = Check.withWeights("5,2048,1,77");
            Check.equal(2048, x.removeWeight(1));
            Check.equal(77, x.removeWeight(2));
            Check.equal(5, x.removeWeight(0));
            Check.weightsAre(x, 1);
        });
        Doc.promise(10, "Throws `IndexOutOfBoundsException` if there is no such weight", () -> {
            WeighingConverter x = new WeighingConverter();
            Check.refusedIndex(x, () -> x.removeWeight(8));
            for (int far : Check.FAR) {
                Check.refusedIndex(x, () -> x.removeWeight(far));
            }
            WeighingConverter full = Check.withWeights(TWELVE);
            Check.refusedIndex(full, () -> full.removeWeight(12));
            Check.equal(12, full.removeWeight(11));
        });
        Doc.promise(10, "Throws `IllegalStateException` if there is only one weight", () -> {
            WeighingConverter x = Check.withWeights("5,9");
            Check.equal(5, x.removeWeight(0));
            Check.refusedState(x, () -> x.removeWeight(0));
            Check.refusedIndex(x, () -> x.removeWeight(1));
            Check.refusedIndex(x, () -> x.removeWeight(-1));
            Check.weightsAre(x, 9);
            x.insertWeight(0, 3);
            Check.equal(9, x.removeWeight(1));
        });
    }

    private static void sorting() {
        Doc.promise(11, "Sorts the weights in descending order.", () -> {
            WeighingConverter x = Check.withWeights("1,64,32,32,16,8,4,2,1");
            x.sortWeights();
            Check.weightsAre(x, 64, 32, 32, 16, 8, 4, 2, 1, 1);
            x.sortWeights();
            Check.weightsAre(x, 64, 32, 32, 16, 8, 4, 2, 1, 1);
            WeighingConverter one = Check.withWeights("2048");
            one.sortWeights();
            Check.weightsAre(one, 2048);
            WeighingConverter full = Check.withWeights(TWELVE);
            full.sortWeights();
            Check.weightsAre(full, 12, 11, 10, 9, 8, 7, 6, 5, 4, 3, 2, 1);
        });
        Check.undoable(11, WeighingConverter::sortWeights);
        Doc.promise(11, "Returns the number of weights that have another number after the call (weights of the same "
            + "size keep their order).", () -> {
                Check.equal(8, Check.withWeights("1,64,32,32,16,8,4,2,1").sortWeights());
                Check.equal(0, new WeighingConverter().sortWeights());
                Check.equal(0, Check.withWeights("5,5,5,5").sortWeights());
                Check.equal(3, Check.withWeights("5,5,6").sortWeights());
                Check.equal(2, Check.withWeights("6,5,6").sortWeights());
                Check.equal(3, Check.withWeights("5,6,6").sortWeights());
                Check.equal(2, Check.withWeights("3,9,7,10,2").sortWeights());
                Check.equal(4, Check.withWeights("1,2,3,4,5").sortWeights());
                Check.equal(12, Check.withWeights(TWELVE).sortWeights());
                Check.equal(0, Check.withWeights("2048").sortWeights());
            });
    }

    private static void reading() {
        Doc.promise(12, "Returns the number of weights.", () -> {
            WeighingConverter x = new WeighingConverter();
            Check.equal(8, x.weights());
            x.insertWeight(8, 1);
            Check.equal(9, x.weights());
            x.undo();
            x.removeWeight(0);
            Check.equal(7, x.weights());
            Check.equal(1, Check.withWeights("3").weights());
            Check.equal(12, Check.withWeights(TWELVE).weights());
        });
        Doc.promise(13, "Returns the size of a weight.", () -> {
            WeighingConverter x = new WeighingConverter();
            for (int number = 0; number < 8; number++) {
                Check.equal(128 >> number, x.weight(number));
            }
        });
        Doc.promise(13, "`weight`: its number", () -> {
            WeighingConverter x = Check.withWeights(TWELVE);
            Check.equal(1, x.weight(0));
            Check.equal(12, x.weight(11));
            Check.refusedIndex(x, () -> x.weight(-1));
            Check.refusedIndex(x, () -> x.weight(12));
        });
        Doc.promise(13, "Returns its size in steps.", () -> {
            WeighingConverter x = Check.withWeights("2048,1,77");
            Check.equal(2048, x.weight(0));
            Check.equal(1, x.weight(1));
            Check.equal(77, x.weight(2));
        });
        Doc.promise(13, "Throws `IndexOutOfBoundsException` if there is no such weight", () -> {
            WeighingConverter x = new WeighingConverter();
            Check.refusedIndex(x, () -> x.weight(8));
            x.removeWeight(7);
            Check.refusedIndex(x, () -> x.weight(7));
            for (int far : Check.FAR) {
                Check.refusedIndex(x, () -> x.weight(far));
            }
        });
        Doc.promise(14, "Returns the sum of all weights.", () -> {
            WeighingConverter x = new WeighingConverter();
            Check.equal(255, x.total());
            x.setWeight(0, 1);
            Check.equal(128, x.total());
            x.removeWeight(1);
            Check.equal(64, x.total());
            Check.equal(24576, Check.withWeights(
                "2048,2048,2048,2048,2048,2048,2048,2048,2048,2048,2048,2048").total());
            Check.equal(1, Check.withWeights("1").total());
        });
    }
}
