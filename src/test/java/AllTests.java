/** Runs every test of the project; exit code 1 if an answer is not as due. */
public final class AllTests {
    private AllTests() {
    }

    public static void main(String[] args) throws Exception {
        FaceTests.all();
        LanguageTests.all();
        ReadmeTests.all();
        PromiseTests.all();
        RuleTests.all();
        LimitTests.all();
        EdgeTests.all();
        ArgumentTests.all();
        HypothesisTests.all();
        HeightTests.all();
        RefusalTests.all();
        ModelTests.all();
        if (!Check.close()) {
            System.exit(1);
        }
    }
}
