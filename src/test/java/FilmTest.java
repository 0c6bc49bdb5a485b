/** Promises 17 to 27: what is asked of the film. */
final class FilmTest {
    private static final int MIN = Integer.MIN_VALUE;
    private static final int MAX = Integer.MAX_VALUE;

    private FilmTest() {
    }

    static void run() {
        wholeFilm();
        movedFilm();
        handles();
        mutedAndCut();
        wrongParameters();
        silences();
    }

    private static void shot(TranscriptCutter x, int shot, int block, int first, int behind, int start) {
        Check.due("block of shot " + shot, x.blockOf(shot), block);
        Check.due("first frame of shot " + shot, x.shotField(shot, 0), first);
        Check.due("frame behind shot " + shot, x.shotField(shot, 1), behind);
        Check.due("film frame of shot " + shot, x.shotField(shot, 2), start);
    }

    private static void clip(TranscriptCutter x, int clip, int first, int behind, int start, int shots) {
        int[] due = {first, behind, start, shots};
        for (int what = 0; what < 4; what++) {
            Check.due("clipField " + clip + " " + what, x.clipField(clip, what), due[what]);
        }
    }

    private static void wholeFilm() {
        TranscriptCutter x = Check.loaded(RecordingTest.TALK);
        Check.due("shots", x.shots(), 4);
        shot(x, 0, 0, 0, 28, 0);
        shot(x, 1, 1, 28, 45, 28);
        shot(x, 2, 2, 45, 77, 45);
        shot(x, 3, 3, 77, 200, 77);
        Check.due("film length", x.filmLength(), 200);
        Check.due("clips", x.clips(), 1);
        clip(x, 0, 0, 200, 0, 4);
        Check.due("sourceOf 0", x.sourceOf(0), 0);
        Check.due("sourceOf 199", x.sourceOf(199), 199);
        Check.due("silence", x.silence(), 161);
        Check.due("longest silence", x.longestSilence(), 101);
        Check.due("speaking time of ann", x.speakingTime(0), 31);
        Check.due("speaking time of bo", x.speakingTime(1), 16);
        Check.due("speaking time of cy", x.speakingTime(2), 4);
    }

    private static void movedFilm() {
        TranscriptCutter x = Check.loaded(RecordingTest.TALK);
        x.move(3, 3, -1);
        shot(x, 0, 3, 70, 200, 0);
        shot(x, 1, 0, 0, 28, 130);
        shot(x, 2, 1, 28, 45, 158);
        shot(x, 3, 2, 45, 77, 175);
        Check.due("moved: film length", x.filmLength(), 207);
        Check.due("moved: clips", x.clips(), 2);
        clip(x, 0, 70, 200, 0, 1);
        clip(x, 1, 0, 77, 130, 3);
        Check.due("no such clip", x.clipField(2, 0), -1);
        int[][] sources = {{0, 70}, {129, 199}, {130, 0}, {206, 76}, {207, -1}, {-1, -1},
            {MIN, -1}, {MAX, -1}};
        for (int[] pair : sources) {
            Check.due("sourceOf " + pair[0], x.sourceOf(pair[0]), pair[1]);
        }
        int[][] heard = {{20, 0, 7}, {28, 0, 7}, {29, 0, -1}, {19, 0, -1}, {20, 1, 8}, {24, 1, 8},
            {25, 1, -1}, {20, 2, -1}, {140, 0, 0}, {142, 2, 1}, {144, 2, -1}, {175, 0, 6},
            {207, 0, -1}, {-1, 1, -1}, {MIN, 2, -1}, {MAX, 2, -1}};
        for (int[] row : heard) {
            Check.due("heard " + row[0] + " " + row[1], x.heard(row[0], row[1]), row[2]);
        }
        Check.due("moved: silence", x.silence(), 168);
        Check.due("moved: longest silence goes over shots", x.longestSilence(), 111);
    }

    private static void handles() {
        TranscriptCutter x = Check.loaded(RecordingTest.TALK);
        Check.due("the head of the first block plays nothing", x.setHandles(0, 999, 0), 28);
        Check.due("the tail of the last block plays nothing", x.setHandles(3, 0, 999), 123);
        Check.due("no tail into the next speech", x.setHandles(1, 0, 999), 17);
        Check.due("no head into the speech before", x.setHandles(2, 999, 0), 32);
        Check.due("a head up to the speech before", x.setHandles(3, 999, 0), 150);
        Check.due("a tail up to the next speech", x.setHandles(2, 0, 999), 45);
        shot(x, 2, 2, 45, 90, 45);
        shot(x, 3, 3, 50, 200, 90);
        Check.due("film with handles", x.filmLength(), 240);
        Check.due("handles part clips", x.clips(), 2);
        clip(x, 0, 0, 90, 0, 3);
        clip(x, 1, 50, 200, 90, 1);
        Check.due("short handles", x.setHandles(1, 3, 0), 20);
        shot(x, 1, 1, 25, 45, 28);
        Check.due("a head alone parts clips", x.clips(), 3);
        // The block before is cut, but the frames of its speech are not played all the same.
        x.cut(0, 1);
        Check.due("head behind a cut block", x.setHandles(1, 999, 0), 25);
        Check.due("a gap in the film parts clips", x.clips(), 2);
    }

    private static void mutedAndCut() {
        TranscriptCutter x = Check.loaded(RecordingTest.TALK);
        x.move(3, 3, -1);
        x.cutWord(1);
        Check.due("muted: not heard", x.heard(142, 2), -1);
        Check.due("muted: the other one is", x.heard(142, 0), 0);
        Check.due("muted: speaking time", x.speakingTime(2), 2);
        Check.due("muted: the film stays", x.filmLength(), 207);
        Check.due("muted under another word: silence", x.silence(), 168);
        x.cutWord(0);
        Check.due("cut: film length", x.filmLength(), 179);
        Check.due("cut: silence", x.silence(), 150);
        Check.due("cut: longest silence", x.longestSilence(), 103);
        Check.due("cut: speaking time", x.speakingTime(0), 21);
        x.cutWord(4);
        Check.due("muted wholly: speaking time", x.speakingTime(2), 0);
        x.cutWord(3);
        // Of 30 to 45 are still 30 to 36 and 40 to 45 heard.
        Check.due("muted alone: silence", x.silence(), 154);
        TranscriptCutter y = Check.loaded("length 9;speaker a;speaker b;word a x 0 9;word b y 2 4;");
        Check.due("no silence", y.silence(), 0);
        Check.due("no longest silence", y.longestSilence(), 0);
        y.cutWord(0);
        Check.due("the shot stays whole", y.filmLength(), 9);
        Check.due("silence round the muted word's neighbour", y.silence(), 7);
        Check.due("longest silence then", y.longestSilence(), 5);
        y.cutWord(1);
        Check.due("nothing is left", y.filmLength(), 0);
        Check.due("nothing is silent", y.silence(), 0);
        Check.due("no clip is left", y.clips(), 0);
        Check.due("no frame is left", y.sourceOf(0), -1);
        Check.due("nobody is heard", y.heard(0, 1), -1);
    }

    private static void wrongParameters() {
        TranscriptCutter x = Check.loaded(RecordingTest.TALK);
        x.cutWord(6);
        int[] wrong = {3, -1, MIN, MAX};
        for (int shot : wrong) {
            Check.noSuch("blockOf " + shot, () -> x.blockOf(shot));
            Check.noSuch("shotField " + shot, () -> x.shotField(shot, 7));
            Check.noSuch("heard by " + shot, () -> x.heard(-1, shot));
            Check.noSuch("speakingTime " + shot, () -> x.speakingTime(shot));
        }
        Check.due("shotField what 3", x.shotField(0, 3), -1);
        Check.due("shotField what -1", x.shotField(0, -1), -1);
        Check.due("clipField what 4", x.clipField(0, 4), -1);
        Check.due("clipField what -1", x.clipField(0, -1), -1);
        Check.due("clipField -1", x.clipField(-1, 0), -1);
        Check.due("clipField 2", x.clipField(2, 3), -1);
        Check.due("clipField max", x.clipField(MAX, 0), -1);
    }

    private static void silences() {
        TranscriptCutter x = Check.loaded("length 100;speaker a;speaker b;word a x 5 30;word b y 10 20;"
                + "word b z 25 40;word a w 60 61;");
        Check.due("a word within another one", x.silence(), 100 - 35 - 1);
        Check.due("longest silence at the end", x.longestSilence(), 39);
        x.cutWord(3);
        Check.due("longest silence behind speech", x.longestSilence(), 10);
        x.cutWord(2);
        x.cutWord(0);
        Check.due("longest silence, only y is heard", x.longestSilence(), 30);
        Check.due("silence, only y is heard", x.silence(), 40);
        TranscriptCutter y = Check.loaded("length 100;speaker a;word a x 70 80;word a z 81 100;");
        Check.due("longest silence at the beginning", y.longestSilence(), 70);
        y.move(1, 1, -1);
        // 12 of head, but only one frame lies behind the speech of x; then z, then 70 silent ones.
        Check.due("longest silence in the middle", y.longestSilence(), 70);
        Check.due("silence in the middle", y.silence(), 72 - 1);
    }
}
