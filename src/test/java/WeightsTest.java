/** Promises 8 to 14: the weights. */
final class WeightsTest {
    private static final int[] FAR_NUMBERS = {-1, Integer.MIN_VALUE, Integer.MAX_VALUE};
    private static final int[] WRONG_STEPS = {0, 2049, -1, Integer.MIN_VALUE, Integer.MAX_VALUE};

    static void run() {
        changing();
        inserting();
        removing();
        sorting();
        reading();
    }

    private static void changing() {
        Check.test("promise 8: changes a weight, answers its previous size", () -> {
            WeighingConverter x = new WeighingConverter();
            Check.equal(128, x.setWeight(0, 2048));
            Check.equal(1, x.setWeight(7, 1));
            Check.equal(2048, x.setWeight(0, 1));
            Check.weightsAre(x, 1, 64, 32, 16, 8, 4, 2, 1);
            Check.equal(3, x.savedStates());
        });
        Check.test("promise 8: wrong arguments are refused, the number first", () -> {
            WeighingConverter x = new WeighingConverter();
            Check.refusedIndex(x, () -> x.setWeight(8, 1));
            for (int number : FAR_NUMBERS) {
                Check.refusedIndex(x, () -> x.setWeight(number, 1));
                Check.refusedIndex(x, () -> x.setWeight(number, 0));
            }
            for (int steps : WRONG_STEPS) {
                Check.refusedArgument(x, () -> x.setWeight(0, steps));
                Check.refusedIndex(x, () -> x.setWeight(8, steps));
            }
        });
    }

    private static void inserting() {
        Check.test("promise 9: inserts before, between and behind", () -> {
            WeighingConverter x = Check.withWeights("7");
            Check.equal(2, x.insertWeight(0, 1));
            Check.equal(3, x.insertWeight(2, 2048));
            Check.equal(4, x.insertWeight(1, 5));
            Check.weightsAre(x, 1, 5, 7, 2048);
            Check.equal(4, x.savedStates());
        });
        Check.test("promise 9: goes up to 12 weights", () -> {
            WeighingConverter x = new WeighingConverter();
            for (int count = 9; count <= 12; count++) {
                Check.equal(count, x.insertWeight(3, count));
            }
            Check.weightsAre(x, 128, 64, 32, 12, 11, 10, 9, 16, 8, 4, 2, 1);
            Check.refusedState(x, () -> x.insertWeight(0, 1));
            Check.refusedState(x, () -> x.insertWeight(12, 2048));
            Check.refusedArgument(x, () -> x.insertWeight(12, 0));
            Check.refusedIndex(x, () -> x.insertWeight(13, 1));
            Check.refusedIndex(x, () -> x.insertWeight(-1, 1));
        });
        Check.test("promise 9: wrong arguments are refused, the number first", () -> {
            WeighingConverter x = new WeighingConverter();
            Check.refusedIndex(x, () -> x.insertWeight(9, 1));
            for (int number : FAR_NUMBERS) {
                Check.refusedIndex(x, () -> x.insertWeight(number, 1));
            }
            for (int steps : WRONG_STEPS) {
                Check.refusedArgument(x, () -> x.insertWeight(8, steps));
                Check.refusedIndex(x, () -> x.insertWeight(9, steps));
            }
        });
    }

    private static void removing() {
        Check.test("promise 10: removes the first, a middle and the last one", () -> {
            WeighingConverter x = new WeighingConverter();
            Check.equal(128, x.removeWeight(0));
            Check.equal(16, x.removeWeight(2));
            Check.equal(1, x.removeWeight(5));
            Check.weightsAre(x, 64, 32, 8, 4, 2);
            Check.equal(3, x.savedStates());
        });
        Check.test("promise 10: the only weight stays", () -> {
            WeighingConverter x = Check.withWeights("5,9");
            Check.equal(5, x.removeWeight(0));
            Check.refusedState(x, () -> x.removeWeight(0));
            Check.refusedIndex(x, () -> x.removeWeight(1));
            Check.refusedIndex(x, () -> x.removeWeight(-1));
            Check.weightsAre(x, 9);
        });
        Check.test("promise 10: wrong numbers are refused, with 12 weights too", () -> {
            WeighingConverter x = new WeighingConverter();
            Check.refusedIndex(x, () -> x.removeWeight(8));
            for (int number : FAR_NUMBERS) {
                Check.refusedIndex(x, () -> x.removeWeight(number));
            }
            WeighingConverter full = Check.withWeights("1,2,3,4,5,6,7,8,9,10,11,12");
            Check.refusedIndex(full, () -> full.removeWeight(12));
            Check.equal(12, full.removeWeight(11));
        });
    }

    private static void sorting() {
        Check.test("promise 11: sorts in descending order, counts the moved ones", () -> {
            WeighingConverter x = Check.withWeights("1,64,32,32,16,8,4,2,1");
            Check.equal(8, x.sortWeights());
            Check.weightsAre(x, 64, 32, 32, 16, 8, 4, 2, 1, 1);
            Check.equal(0, x.sortWeights());
            Check.equal(3, x.savedStates());
        });
        Check.test("promise 11: weights of the same size keep their order", () -> {
            Check.equal(0, Check.withWeights("5,5,5,5").sortWeights());
            Check.equal(3, Check.withWeights("5,5,6").sortWeights());
            Check.equal(2, Check.withWeights("6,5,6").sortWeights());
            Check.equal(2, Check.withWeights("3,9,7,10,2").sortWeights());
            Check.equal(4, Check.withWeights("1,2,3,4,5").sortWeights());
            Check.equal(12, Check.withWeights("1,2,3,4,5,6,7,8,9,10,11,12").sortWeights());
            Check.equal(0, Check.withWeights("2048").sortWeights());
        });
    }

    private static void reading() {
        Check.test("promise 12: the number of weights", () -> {
            WeighingConverter x = new WeighingConverter();
            Check.equal(8, x.weights());
            x.insertWeight(8, 1);
            Check.equal(9, x.weights());
            x.undo();
            x.removeWeight(0);
            Check.equal(7, x.weights());
            Check.equal(1, Check.withWeights("3").weights());
            Check.equal(12, Check.withWeights("1,1,1,1,1,1,1,1,1,1,1,1").weights());
        });
        Check.test("promise 13: the size of a weight", () -> {
            WeighingConverter x = Check.withWeights("2048,1,77");
            Check.equal(2048, x.weight(0));
            Check.equal(1, x.weight(1));
            Check.equal(77, x.weight(2));
        });
        Check.test("promise 13: wrong numbers are refused", () -> {
            WeighingConverter x = new WeighingConverter();
            x.removeWeight(7);
            Check.refusedIndex(x, () -> x.weight(7));
            for (int number : FAR_NUMBERS) {
                Check.refusedIndex(x, () -> x.weight(number));
            }
            WeighingConverter full = Check.withWeights("1,2,3,4,5,6,7,8,9,10,11,12");
            Check.refusedIndex(full, () -> full.weight(12));
        });
        Check.test("promise 14: the sum of all weights", () -> {
            WeighingConverter x = new WeighingConverter();
            Check.equal(255, x.total());
            x.setWeight(0, 1);
            Check.equal(128, x.total());
            x.removeWeight(1);
            Check.equal(64, x.total());
            Check.equal(24576, Check.withWeights(
                "2048,2048,2048,2048,2048,2048,2048,2048,2048,2048,2048,2048").total());
            Check.equal(1, Check.withWeights("1").total());
        });
    }
}
