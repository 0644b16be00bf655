/** Runs every test of the project; the exit code is 1 if one of them fails. */
public final class AllTests {
    public static void main(String[] arguments) {
        TermsTest.run();
        CapacitorTest.run();
        SettingsTest.run();
        WeightsTest.run();
        ConversionTest.run();
        ForecastTest.run();
        WeightTextTest.run();
        UndoTest.run();
        ModelTest.run();
        FaceTest.run();
        RoomTest.run();
        ReadmeTest.run();
        Doc.run();
        System.out.println(Check.passed + " passed, " + Check.failed + " failed");
        if (Check.failed != 0) {
            System.exit(1);
        }
    }
}
