/**
 * Runs every test of the project; ends with exit code 1 if one fails. A number as argument tells how
 * many objects are compared with the model.
 */
public final class AllTests {
    private AllTests() {
    }

    public static void main(String[] args) {
        FaceTest.run();
        ReadmeTest.run();
        EdgeTest.run();
        InputTest.run();
        TextErrorTest.run();
        ScriptErrorTest.run();
        RecordingTest.run();
        FilmTest.run();
        TranscriptTest.run();
        TrialTest.run();
        ActionTest.run();
        UndoTest.run();
        ScriptRunTest.run();
        FormatTest.run();
        LimitTest.run();
        ModelTest.run(args.length > 0 ? Integer.parseInt(args[0]) : 250);
        if (!Check.allRight()) {
            System.exit(1);
        }
    }
}
