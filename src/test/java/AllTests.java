/** Runs every test of the project; ends with exit code 1 if one fails. */
public final class AllTests {
    private AllTests() {
    }

    public static void main(String[] args) {
        FaceTest.run();
        InputTest.run();
        TextErrorTest.run();
        ScriptErrorTest.run();
        RecordingTest.run();
        FilmTest.run();
        TranscriptTest.run();
        TrialTest.run();
        ActionTest.run();
        UndoTest.run();
        ScriptRunTest.run();
        FormatTest.run();
        ModelTest.run();
        if (!Check.allRight()) {
            System.exit(1);
        }
    }
}
