/** Promises 8 to 16: what is asked of the recording. */
final class RecordingTest {
    /**
     * The words come as 0 ann so 10-20, 1 cy so 12-14, 2 bo yes 30-36, 3 ann we 33-40, 4 cy um
     * 39-41, 5 bo we 40-45, 6 ann ok 45-50, 7 ann bye 90-99, 8 bo end 90-95; the blocks are 0-1,
     * 2-5, 6, 7-8, with the ranges 0-28, 28-45, 45-77, 77-200.
     */
    static final String TALK = "length 200;handle 7;speaker ann;speaker bo;speaker cy;"
            + "word bo yes 30 36;word ann so 10 20;word cy so 12 14;word bo end 90 95;"
            + "word ann we 33 40;word bo we 40 45;word cy um 39 41;word ann ok 45 50;"
            + "word ann bye 90 99;"
            + "breath 18 23;breath 26 40;breath 72 82;breath 60 70;breath 44 46;";

    private static final int MIN = Integer.MIN_VALUE;
    private static final int MAX = Integer.MAX_VALUE;

    private RecordingTest() {
    }

    static void run() {
        counts();
        words();
        texts();
        blocks();
        cutPoints();
        frames();
    }

    private static void counts() {
        TranscriptCutter x = Check.loaded(TALK);
        int[] due = {200, 3, 9, 4, 5, 7};
        for (int what = 0; what < due.length; what++) {
            Check.due("count " + what, x.count(what), due[what]);
        }
        Check.due("count -1", x.count(-1), -1);
        Check.due("count 6", x.count(6), -1);
        Check.due("count max", x.count(MAX), -1);
    }

    private static void words() {
        TranscriptCutter x = Check.loaded(TALK);
        int[][] due = {
            {0, 10, 20, 0, 0, 1}, {2, 12, 14, 0, 0, 1}, {1, 30, 36, 1, 0, 1},
            {0, 33, 40, 1, 0, 2}, {2, 39, 41, 1, 0, 2}, {1, 40, 45, 1, 0, 1},
            {0, 45, 50, 2, 0, 0}, {0, 90, 99, 3, 0, 1}, {1, 90, 95, 3, 0, 1}};
        for (int word = 0; word < due.length; word++) {
            for (int what = 0; what < 6; what++) {
                Check.due("wordField " + word + " " + what, x.wordField(word, what),
                        due[word][what]);
            }
        }
        Check.due("wordField 0 6", x.wordField(0, 6), -1);
        Check.due("wordField 0 -1", x.wordField(0, -1), -1);
        Check.noSuch("wordField 9", () -> x.wordField(9, 0));
        Check.noSuch("wordField -1", () -> x.wordField(-1, 0));
        Check.noSuch("wordField max", () -> x.wordField(MAX, 9));
        x.cutWord(1);
        Check.due("a muted word", x.wordField(1, 4), TranscriptCutter.MUTED);
        Check.due("the other one is kept", x.wordField(0, 4), TranscriptCutter.KEPT);
        x.cutWord(0);
        Check.due("a cut word", x.wordField(1, 4), TranscriptCutter.CUT);
        Check.due("the other one is cut", x.wordField(0, 4), TranscriptCutter.CUT);
        Check.due("cut words overlap still", x.wordField(1, 5), 1);

        Check.due("overlap 2 3", x.overlap(2, 3), true);
        Check.due("overlap 3 2", x.overlap(3, 2), true);
        Check.due("overlap in one block only", x.overlap(2, 4), false);
        Check.due("words that touch", x.overlap(3, 5), false);
        Check.due("blocks that touch", x.overlap(6, 5), false);
        Check.due("one in the other", x.overlap(1, 0), true);
        Check.due("overlap itself", x.overlap(6, 6), true);
        Check.noSuch("overlap 9 0", () -> x.overlap(9, 0) ? 1 : 0);
        Check.noSuch("overlap 0 9", () -> x.overlap(0, 9) ? 1 : 0);
        Check.noSuch("overlap -1 0", () -> x.overlap(-1, 0) ? 1 : 0);
        Check.noSuch("overlap 0 min", () -> x.overlap(0, MIN) ? 1 : 0);
    }

    private static void texts() {
        TranscriptCutter x = Check.loaded(TALK);
        Check.due("same text", x.isSameText(0, 1), true);
        Check.due("same text 3 5", x.isSameText(5, 3), true);
        Check.due("other text", x.isSameText(0, 2), false);
        Check.due("same word", x.isSameText(8, 8), true);
        Check.noSuch("isSameText 9 0", () -> x.isSameText(9, 0) ? 1 : 0);
        Check.noSuch("isSameText 0 9", () -> x.isSameText(0, 9) ? 1 : 0);
        Check.noSuch("isSameText 0 -1", () -> x.isSameText(0, -1) ? 1 : 0);
        Check.due("different texts", x.differentTexts(), 7);
        x.cutWord(6);
        Check.due("different texts with a cut word", x.differentTexts(), 7);
        TranscriptCutter y = Check.loaded("speaker a;word a a 1 2;word a aa 3 4;word a ab 5 6;"
                + "word a ba 7 8;word a a 9 10;word a zzzzzz 11 12;word a zzzzzy 13 14;");
        Check.due("texts with the same letters", y.differentTexts(), 6);
        Check.due("a and aa", y.isSameText(0, 1), false);
        Check.due("ab and ba", y.isSameText(2, 3), false);
        Check.due("a and a", y.isSameText(0, 4), true);
        Check.due("zzzzzz and zzzzzy", y.isSameText(5, 6), false);
    }

    private static void blocks() {
        TranscriptCutter x = Check.loaded(TALK);
        int[][] due = {
            {10, 20, 2, 2, 0, 28, 0, 0, 0}, {30, 45, 4, 4, 28, 45, 0, 0, 1},
            {45, 50, 1, 1, 45, 77, 0, 0, 2}, {90, 99, 2, 2, 77, 200, 0, 0, 3}};
        for (int block = 0; block < due.length; block++) {
            for (int what = 0; what < 9; what++) {
                Check.due("blockField " + block + " " + what, x.blockField(block, what),
                        due[block][what]);
            }
        }
        Check.due("blockField 0 9", x.blockField(0, 9), -1);
        Check.due("blockField 0 -1", x.blockField(0, -1), -1);
        Check.noSuch("blockField 4", () -> x.blockField(4, 0));
        Check.noSuch("blockField -1", () -> x.blockField(-1, 99));
        x.setHandles(1, 3, 999);
        Check.due("head", x.blockField(1, 6), 3);
        Check.due("tail", x.blockField(1, 7), 999);
        x.cutWord(3);
        Check.due("kept words", x.blockField(1, 3), 3);
        Check.due("words", x.blockField(1, 2), 4);
        x.cutWord(6);
        Check.due("no kept word", x.blockField(2, 3), 0);
        Check.due("no shot", x.blockField(2, 8), -1);
        Check.due("shot before", x.blockField(1, 8), 1);
        Check.due("shot behind", x.blockField(3, 8), 2);
        x.move(2, 2, -1);
        Check.due("moved shot", x.blockField(3, 8), 0);
        Check.due("the range stays", x.blockField(3, 4), 77);
    }

    private static void cutPoints() {
        TranscriptCutter x = Check.loaded(TALK);
        Check.due("snapped 0", x.isSnapped(0), true);
        Check.due("gap without frames", x.isSnapped(1), false);
        Check.due("snapped 2: the first one of two alike", x.isSnapped(2), true);
        Check.due("last block", x.isSnapped(3), false);
        Check.noSuch("isSnapped 4", () -> x.isSnapped(4) ? 1 : 0);
        Check.noSuch("isSnapped -1", () -> x.isSnapped(-1) ? 1 : 0);

        cutPoint("rounded down, no breath", "", 15, false);
        cutPoint("a breath that ends at the gap", "breath 5 10;", 15, false);
        cutPoint("a breath that starts behind the gap", "breath 21 30;", 15, false);
        cutPoint("one frame at the start", "breath 0 11;", 10, true);
        cutPoint("one frame at the end", "breath 20 99;", 20, true);
        cutPoint("the whole gap", "breath 0 99;", 15, true);
        cutPoint("a breath, rounded down", "breath 12 15;", 13, true);
        cutPoint("the longer share, not the longer breath", "breath 1 13;breath 14 18;", 16, true);
        cutPoint("alike: the first in the text", "breath 17 19;breath 11 13;", 18, true);
        cutPoint("alike: the first in the text again", "breath 11 13;breath 17 19;", 12, true);
        cutPoint("a later longer one", "breath 11 13;breath 16 19;", 17, true);

        TranscriptCutter y = Check.loaded("length 50;speaker a;word a x 5 10;breath 20 30;breath 0 3;");
        Check.due("a single block", y.blockField(0, 5), 50);
        Check.due("a single block is not snapped", y.isSnapped(0), false);
    }

    /** The cut point in a gap from 10 to 21. */
    private static void cutPoint(String what, String breaths, int due, boolean snapped) {
        TranscriptCutter x = Check.loaded("length 50;speaker a;word a x 5 10;word a y 21 30;" + breaths);
        Check.due(what + ": range end", x.blockField(0, 5), due);
        Check.due(what + ": range start", x.blockField(1, 4), due);
        Check.due(what + ": snapped", x.isSnapped(0), snapped);
    }

    private static void frames() {
        TranscriptCutter x = Check.loaded(TALK);
        int[][] blockDue = {{0, 0}, {27, 0}, {28, 1}, {44, 1}, {45, 2}, {76, 2}, {77, 3}, {199, 3},
            {200, -1}, {-1, -1}, {MIN, -1}, {MAX, -1}};
        for (int[] pair : blockDue) {
            Check.due("blockAt " + pair[0], x.blockAt(pair[0]), pair[1]);
        }
        int[][] speakersDue = {{9, 0}, {10, 1}, {12, 5}, {13, 5}, {14, 1}, {19, 1}, {20, 0},
            {33, 3}, {36, 1}, {39, 5}, {40, 6}, {41, 2}, {44, 2}, {45, 1}, {90, 3}, {95, 1},
            {99, 0}, {200, 0}, {-1, 0}, {MIN, 0}, {MAX, 0}};
        for (int[] pair : speakersDue) {
            Check.due("speakersAt " + pair[0], x.speakersAt(pair[0]), pair[1]);
        }
        x.cutWord(0);
        x.cutWord(1);
        Check.due("blockAt of a cut block", x.blockAt(5), 0);
        Check.due("speakersAt of a cut block", x.speakersAt(12), 5);
        TranscriptCutter y = Check.loaded("speaker a;speaker b;speaker c;speaker d;word d x 0 9;");
        Check.due("the fourth speaker", y.speakersAt(0), 8);
        Check.due("no words: no block", Check.loaded("length 5;").blockAt(0), -1);
    }
}
