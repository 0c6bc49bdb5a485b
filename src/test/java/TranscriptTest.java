/** Promises 28 to 33: what is asked of the transcript. */
final class TranscriptTest {
    private TranscriptTest() {
    }

    static void run() {
        places();
        starts();
        sameTexts();
        wrongWords();
    }

    private static void places() {
        TranscriptCutter x = Check.loaded(RecordingTest.TALK);
        Check.due("all words", Check.film(x), "0 1 2 3 4 5 6 7 8 | 0 1 2 3");
        Check.due("size", x.transcriptSize(), 9);
        Check.due("transcriptWord 9", x.transcriptWord(9), -1);
        Check.due("transcriptWord -1", x.transcriptWord(-1), -1);
        Check.due("transcriptWord max", x.transcriptWord(Integer.MAX_VALUE), -1);
        x.move(3, 3, 0);
        x.cutWord(4);
        x.cutWord(6);
        Check.due("moved and cut", Check.film(x), "0 1 7 8 2 3 5 | 0 3 1");
        Check.due("size then", x.transcriptSize(), 7);
        int[] due = {0, 1, 4, 5, -1, 6, -1, 2, 3};
        for (int word = 0; word < due.length; word++) {
            Check.due("placeOf " + word, x.placeOf(word), due[word]);
        }
        Check.due("transcriptWord 7 then", x.transcriptWord(7), -1);
    }

    private static void starts() {
        TranscriptCutter x = Check.loaded(RecordingTest.TALK);
        Check.due("start of 0", x.startInFilm(0), 10);
        Check.due("start of 8", x.startInFilm(8), 90);
        x.move(3, 3, 0);
        x.cutWord(4);
        x.cutWord(6);
        // 28 frames of block 0, 130 of block 3 from 70 on, then block 1 from 28 on.
        int[] due = {10, 12, 160, 163, -1, 170, -1, 48, 48};
        for (int word = 0; word < due.length; word++) {
            Check.due("startInFilm " + word, x.startInFilm(word), due[word]);
        }
    }

    private static void sameTexts() {
        TranscriptCutter x = Check.loaded(RecordingTest.TALK);
        Check.due("so occurs", x.occurrences(1), 2);
        Check.due("we occurs", x.occurrences(3), 2);
        Check.due("end occurs", x.occurrences(8), 1);
        Check.due("so so", x.stutters(), 1);
        x.cutWord(4);
        Check.due("so so and we we", x.stutters(), 2);
        x.cutWord(3);
        Check.due("a cut word occurs elsewhere", x.occurrences(3), 1);
        Check.due("one stutter is cut", x.stutters(), 1);
        x.cutWord(5);
        Check.due("we occurs no more", x.occurrences(3), 0);
        TranscriptCutter y = Check.loaded(ScriptRunTest.spoken("a b b b a"));
        Check.due("three alike are two stutters", y.stutters(), 2);
        y.cut(1, 3);
        Check.due("stutters over shots", y.stutters(), 1);
        y.cut(0, 1);
        Check.due("nothing stutters", y.stutters(), 0);
    }

    private static void wrongWords() {
        TranscriptCutter x = Check.loaded(RecordingTest.TALK);
        for (int word : new int[] {9, -1, Integer.MIN_VALUE, Integer.MAX_VALUE}) {
            Check.noSuch("placeOf " + word, () -> x.placeOf(word));
            Check.noSuch("startInFilm " + word, () -> x.startInFilm(word));
            Check.noSuch("occurrences " + word, () -> x.occurrences(word));
        }
    }
}
