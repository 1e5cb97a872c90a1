/** Runs every test of the project. */
public final class AllTests {
    private AllTests() {
    }

    public static void main(String[] args) {
        SetupTextTests.run();
        ThreadTests.run();
        FactTests.run();
        TickTests.run();
        FollowTests.run();
        PredictionTests.run();
        SavedTests.run();
        EdgeTextTests.run();
        EdgeThreadTests.run();
        EdgeFactTests.run();
        EdgeActTests.run();
        EdgeTermTests.run();
        EdgeTickTests.run();
        EdgePredictionTests.run();
        FaceTests.run();
        LanguageTests.run();
        ReadmeTests.run();
        RandomTests.run();
        System.out.println(Check.passed() + " passed, " + Check.failed() + " failed");
        if (Check.failed() > 0) {
            System.exit(1);
        }
    }
}
