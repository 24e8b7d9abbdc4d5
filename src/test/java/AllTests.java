/** Runs every test of the project; ends with 1 if an answer is wrong or a promise has no test. */
final class AllTests {
    private AllTests() {
    }

    public static void main(String[] arguments) {
        FaceTest.test();
        ChangesTest.test();
        RangesTest.test();
        PeaksTest.test();
        PatternsTest.test();
        WholeSeriesTest.test();
        ProgramsTest.test();
        SentencesTest.test();
        GrammarTest.test();
        ReadmeTest.test();
        RandomRunsTest.test();
        Check.finish(61);
    }
}
