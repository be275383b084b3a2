/** Runs every test of the project, and ends with exit code 1 if one fails. */
public final class AllTests {
    private AllTests() {
    }

    public static void main(String[] args) {
        FaceTest.run();
        ModificationsTest.run();
        TextTest.run();
        HistoryTest.run();
        FirstListTest.run();
        SecondListTest.run();
        CountsTest.run();
        ListSentences.run();
        MergeSentences.run();
        TextSentences.run();
        HistorySentences.run();
        RefusalSentences.run();
        AnswerSentences.run();
        ModelTest.run();
        ReadmeTest.run();
        if (!Checks.close()) {
            System.exit(1);
        }
    }
}
