/** Promises 34 to 36: trials. */
final class TrialTest {
    private static final int MIN = Integer.MIN_VALUE;
    private static final int MAX = Integer.MAX_VALUE;

    private TrialTest() {
    }

    static void run() {
        cutting();
        restoring();
        shorter();
    }

    private static void cutting() {
        TranscriptCutter x = Check.loaded(RecordingTest.TALK);
        int[][] due = {{0, 0, 200}, {0, 1, 172}, {1, 2, 200}, {0, 5, 155}, {0, 8, 0}, {2, 5, 183},
            {3, 5, 200}, {6, 6, 168}, {1, 6, 151}, {8, 8, 200}, {7, 8, 77}};
        String before = Check.state(x);
        for (int[] row : due) {
            Check.due("lengthIfCut " + row[0] + " " + row[1], x.lengthIfCut(row[0], row[1]), row[2]);
        }
        Check.due("lengthIfCut changes nothing", Check.state(x), before);
        int[][] wrong = {{-1, 0}, {0, 9}, {9, 9}, {3, 2}, {MIN, MAX}, {MAX, MIN}, {0, MAX}, {-1, -1}};
        for (int[] row : wrong) {
            Check.notAllowed("lengthIfCut " + row[0] + " " + row[1],
                    () -> x.lengthIfCut(row[0], row[1]));
        }
        x.cutWord(1);
        x.move(3, 3, -1);
        Check.due("the last kept word of a block", x.lengthIfCut(2, 2), 179);
        Check.due("with handles", x.lengthIfCut(0, 1), 77);
        Check.notAllowed("fewer places", () -> x.lengthIfCut(0, 8));
    }

    private static void restoring() {
        TranscriptCutter x = Check.loaded(RecordingTest.TALK);
        Check.due("a kept word", x.lengthIfRestored(6), 200);
        x.cutWord(6);
        x.cutWord(4);
        x.setHandles(2, 0, 10);
        String before = Check.state(x);
        Check.due("a kept word then", x.lengthIfRestored(0), 168);
        Check.due("a muted word", x.lengthIfRestored(4), 168);
        Check.due("a cut word", x.lengthIfRestored(6), 200);
        x.setHandles(3, 7, 0);
        Check.due("a cut word, with other handles", x.lengthIfRestored(6), 207);
        x.undo();
        Check.due("lengthIfRestored changes nothing", Check.state(x), before);
        x.cut(0, 1);
        Check.due("a cut word of the first block", x.lengthIfRestored(0), 168);
        for (int word : new int[] {9, -1, MIN, MAX}) {
            Check.noSuch("lengthIfRestored " + word, () -> x.lengthIfRestored(word));
        }
    }

    private static void shorter() {
        // The shots have 28, 17, 32 and 123 frames.
        TranscriptCutter x = Check.loaded(RecordingTest.TALK);
        int[][] due = {{MAX, 0}, {200, 0}, {199, 1}, {77, 1}, {76, 2}, {45, 2}, {44, 3}, {17, 3},
            {16, 4}, {0, 4}, {-1, -1}, {MIN, -1}};
        String before = Check.state(x);
        for (int[] pair : due) {
            Check.due("shotsToCut " + pair[0], x.shotsToCut(pair[0]), pair[1]);
        }
        Check.due("shotsToCut changes nothing", Check.state(x), before);
        x.setHandles(3, 27, 0);
        Check.due("shotsToCut 227", x.shotsToCut(227), 0);
        Check.due("shotsToCut 226", x.shotsToCut(226), 1);
        Check.due("shotsToCut 76 then", x.shotsToCut(76), 2);
        x.cut(0, 8);
        Check.due("an empty film", x.shotsToCut(0), 0);
        longestFirst("speaker s;length 45;word s a 0 27;word s b 29 30;");
        longestFirst("speaker s;length 45;word s a 0 16;word s b 18 30;");
    }

    /** Of two shots with 28 and 17 frames the longer one is left out, wherever it stands. */
    private static void longestFirst(String text) {
        TranscriptCutter x = Check.loaded(text);
        Check.due("shots of " + text, x.blockField(0, 5) == 28 || x.blockField(0, 5) == 17, true);
        Check.due("shotsToCut 44 of " + text, x.shotsToCut(44), 1);
        Check.due("shotsToCut 17 of " + text, x.shotsToCut(17), 1);
        Check.due("shotsToCut 16 of " + text, x.shotsToCut(16), 2);
    }
}
