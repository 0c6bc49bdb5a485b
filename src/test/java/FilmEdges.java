/** The edges of the film, its handles and clips, and of promises 17 to 27. */
final class FilmEdges {
    private static final int MIN = Integer.MIN_VALUE;
    private static final int MAX = Integer.MAX_VALUE;
    /** Three words that touch, each in a block of its own, and no frame besides. */
    private static final String TIGHT = "length 3;speaker a;word a x 0 1;word a y 1 2;word a z 2 3;";

    private FilmEdges() {
    }

    /** Two blocks, the speech of which are the first and the last frame that there can be. */
    static TranscriptCutter widest() {
        return Check.loaded("length 99999;speaker a;word a x 0 1;word a y 99998 99999;");
    }

    private static void frames(String what, TranscriptCutter x, int shot, int first, int behind) {
        Check.due(what + ": first frame", x.shotField(shot, 0), first);
        Check.due(what + ": frame behind", x.shotField(shot, 1), behind);
    }

    // ---- the film

    @Says("all words are kept at first")
    static void film_allWordsAreKeptAtFirst() {
        TranscriptCutter x = Check.loaded(TextEdges.words(40));
        for (int word = 0; word < 40; word++) {
            Check.due("state of " + word, x.wordField(word, 4), TranscriptCutter.KEPT);
        }
    }

    @Says("at first they are in the order of their numbers")
    static void film_orderAtFirst() {
        TranscriptCutter x = Check.loaded(TextEdges.words(40));
        Check.due("shots", x.shots(), 40);
        for (int shot = 0; shot < 40; shot++) {
            Check.due("block of " + shot, x.blockOf(shot), shot);
        }
    }

    @Says("each shot is a block that has at least one kept word")
    static void film_oneAndNoKeptWord() {
        TranscriptCutter x = Twins.talk();
        x.cutWord(1);
        Check.due("one kept word", x.blockField(1, 8), 1);
        x.cutWord(2);
        Check.due("no kept word", x.blockField(1, 8), -1);
        Check.due("shots", x.shots(), 2);
        x.restore(2, 2);
        Check.due("one kept word again", x.blockField(1, 8), 1);
    }

    @Says("A word that is not kept is MUTED if its block is in the film, and CUT otherwise.")
    static void film_mutedAndCut() {
        TranscriptCutter x = Twins.talk();
        x.cutWord(1);
        Check.due("its block is in the film", x.wordField(1, 4), TranscriptCutter.MUTED);
        x.cutWord(2);
        Check.due("its block has left the film", x.wordField(1, 4), TranscriptCutter.CUT);
        Check.due("and the other word", x.wordField(2, 4), TranscriptCutter.CUT);
        x.restore(2, 2);
        Check.due("its block is back", x.wordField(1, 4), TranscriptCutter.MUTED);
    }

    // ---- handles

    @Says("Each block has a head and a tail, numbers of frames, 0 at first.")
    static void handles_zeroAtFirst() {
        TranscriptCutter x = Twins.talk();
        for (int block = 0; block < 3; block++) {
            Check.due("head of " + block, x.blockField(block, 6), 0);
            Check.due("tail of " + block, x.blockField(block, 7), 0);
            frames("shot " + block, x, block, x.blockField(block, 4), x.blockField(block, 5));
        }
    }

    @Says("but none before the end of the speech of the block before it")
    static void handles_headUpToTheSpeechBefore() {
        TranscriptCutter x = Twins.talk();
        int[][] due = {{0, 22}, {1, 21}, {2, 20}, {3, 20}, {999, 20}};
        for (int[] pair : due) {
            Check.due("frames", x.setHandles(1, pair[0], 0), 41 - pair[1]);
            frames("head " + pair[0], x, 1, pair[1], 41);
        }
        int[][] last = {{6, 35}, {7, 34}, {8, 34}};
        for (int[] pair : last) {
            Check.due("frames", x.setHandles(2, pair[0], 0), 100 - pair[1]);
            frames("head of the last block " + pair[0], x, 2, pair[1], 100);
        }
    }

    @Says("but none before the end of the speech of the block before it (by numbers")
    static void handles_blockBeforeByNumbers() {
        TranscriptCutter x = Twins.talk();
        x.move(0, 0, 2);
        x.setHandles(1, 999, 999);
        frames("no block stands before it in the film", x, 0, 20, 60);
        x.cutWord(0);
        x.cutWord(3);
        frames("its neighbours are cut", x, 0, 20, 60);
    }

    @Says("none below 0 for the first block")
    static void handles_headOfTheFirstBlock() {
        for (int head : new int[] {0, 1, 999}) {
            TranscriptCutter x = Twins.talk();
            Check.due("head " + head, x.setHandles(0, head, 0), 22);
            frames("head " + head, x, 0, 0, 22);
        }
    }

    @Says("but none from the start of the speech of the next block on")
    static void handles_tailUpToTheNextSpeech() {
        TranscriptCutter x = Twins.talk();
        int[][] due = {{0, 22}, {1, 23}, {2, 24}, {3, 24}, {999, 24}};
        for (int[] pair : due) {
            Check.due("frames", x.setHandles(0, 0, pair[0]), pair[1]);
            frames("tail " + pair[0], x, 0, 0, pair[1]);
        }
        int[][] second = {{18, 59}, {19, 60}, {20, 60}};
        for (int[] pair : second) {
            Check.due("frames", x.setHandles(1, 0, pair[0]), pair[1] - 22);
            frames("tail of the second block " + pair[0], x, 1, 22, pair[1]);
        }
    }

    @Says("none from the length on for the last block")
    static void handles_tailOfTheLastBlock() {
        for (int tail : new int[] {0, 1, 999}) {
            TranscriptCutter x = Twins.talk();
            Check.due("tail " + tail, x.setHandles(2, 0, tail), 59);
            frames("tail " + tail, x, 2, 41, 100);
        }
    }

    @Says("but none before the end of the speech of the block before it")
    static void handles_gapWithoutFrames() {
        TranscriptCutter x = Check.loaded(TIGHT);
        for (int block = 0; block < 3; block++) {
            Check.due("frames of " + block, x.setHandles(block, 999, 999), 1);
            frames("block " + block, x, block, block, block + 1);
        }
    }

    @Says("The film frames are the frames of all shots one after the other, numbered from 0.")
    static void handles_firstFilmFrames() {
        TranscriptCutter x = Twins.talk();
        x.setHandles(0, 9, 2);
        x.setHandles(1, 2, 0);
        int[] due = {0, 24, 45};
        for (int shot = 0; shot < 3; shot++) {
            Check.due("first film frame of " + shot, x.shotField(shot, 2), due[shot]);
        }
        Check.due("film length", x.filmLength(), 104);
    }

    // ---- clips

    @Says("if its first frame is the frame directly behind the last frame of that one; "
            + "otherwise it begins a clip")
    static void clips_oneFrameBesides() {
        TranscriptCutter x = Twins.talk();
        Check.due("directly behind", x.clips(), 1);
        x.setHandles(1, 1, 0);
        Check.due("a frame twice", x.clips(), 2);
        x.setHandles(1, 0, 1);
        Check.due("a frame twice at its end", x.clips(), 2);
        x.setHandles(1, 0, 0);
        Check.due("directly behind again", x.clips(), 1);
        TranscriptCutter y = Check.loaded(TIGHT);
        y.cutWord(1);
        Check.due("a frame is missing", y.clips(), 2);
        y.restore(1, 1);
        Check.due("none is missing", y.clips(), 1);
        y.cutWord(0);
        Check.due("the first one begins a clip", y.clips(), 1);
    }

    @Says("a shot belongs to the clip of the shot before it")
    static void clips_handlesThatPlayNothing() {
        TranscriptCutter x = Check.loaded(TIGHT);
        for (int block = 0; block < 3; block++) {
            x.setHandles(block, 5, 5);
        }
        Check.due("handles without frames part nothing", x.clips(), 1);
        x.move(0, 0, 2);
        Check.due("y z x", x.clips(), 2);
        x.move(1, 1, 2);
        Check.due("y x z", x.clips(), 3);
        x.move(0, 0, 1);
        Check.due("x y z", x.clips(), 1);
    }

    // ---- promises 17 to 27

    @Says("Returns the number of shots.")
    static void promise17_noneAndForty() {
        Check.due("none", new TranscriptCutter().shots(), 0);
        TranscriptCutter x = Check.loaded(TextEdges.words(40));
        Check.due("forty", x.shots(), 40);
        x.cut(1, 39);
        Check.due("one", x.shots(), 1);
        x.cut(0, 0);
        Check.due("none is left", x.shots(), 0);
    }

    @Says("int blockOf(int shot) throws IndexOutOfBoundsException")
    static void promise18_noSuchShot() {
        Twins.indexed("blockOf", 2, shot -> x -> x.blockOf(shot));
        Twins.asks("the first shot", 1, x -> x.blockOf(0));
        Twins.asks("the last shot", 0, x -> x.blockOf(1));
    }

    @Says("int shotField(int shot, int what) throws IndexOutOfBoundsException")
    static void promise19_noSuchShot() {
        Twins.indexed("shotField 0", 2, shot -> x -> x.shotField(shot, 0));
        Twins.indexed("shotField 3", 2, shot -> x -> x.shotField(shot, 3));
    }

    @Says("Returns that property of the shot; NONE if what is not 0 to 2.")
    static void promise19_whatOutOfRange() {
        int[][] due = {{20, 46, 0}, {0, 24, 26}};
        for (int shot = 0; shot < 2; shot++) {
            TranscriptCutter x = Twins.busy();
            for (int what = 0; what < 3; what++) {
                Check.due("shotField " + shot + " " + what, x.shotField(shot, what), due[shot][what]);
            }
        }
        for (int what : new int[] {-1, 3, MIN, MAX}) {
            Twins.asks("shotField 1 " + what, -1, x -> x.shotField(1, what));
        }
    }

    @Says("Returns the number of film frames.")
    static void promise20_noneOneAndMoreThanTheLength() {
        Check.due("no shot", Check.loaded("length 500;speaker a;").filmLength(), 0);
        Check.due("one frame", Check.loaded("length 1;speaker a;word a x 0 1;").filmLength(), 1);
        TranscriptCutter x = widest();
        Check.due("the greatest length", x.filmLength(), 99999);
        x.setHandles(0, 0, 999);
        x.setHandles(1, 999, 0);
        Check.due("more than the length", x.filmLength(), 99999 + 2 * 999);
    }

    @Says("Returns the number of clips.")
    static void promise21_noneOneAndForty() {
        Check.due("no shot", new TranscriptCutter().clips(), 0);
        TranscriptCutter x = Check.loaded(TextEdges.words(40));
        Check.due("one", x.clips(), 1);
        for (int k = 0; k < 39; k++) {
            x.move(39, 39, k - 1);
        }
        Check.due("forty", x.clips(), 40);
        Check.due("the last one", x.clipField(39, 3), 1);
        x.cut(0, 39);
        Check.due("none is left", x.clips(), 0);
    }

    @Says("Returns that property of the clip; NONE if there is no such clip, "
            + "or if what is not 0 to 3.")
    static void promise22_firstAndLastClip() {
        int[][] due = {{20, 46, 0, 1}, {0, 24, 26, 1}};
        for (int clip = 0; clip < 2; clip++) {
            TranscriptCutter x = Twins.busy();
            for (int what = 0; what < 4; what++) {
                Check.due("clipField " + clip + " " + what, x.clipField(clip, what), due[clip][what]);
            }
        }
        TranscriptCutter y = Twins.talk();
        y.setHandles(1, 1, 0);
        int[] last = {21, 100, 22, 2};
        for (int what = 0; what < 4; what++) {
            Check.due("a clip of two shots " + what, y.clipField(1, what), last[what]);
        }
    }

    @Says("NONE if there is no such clip, or if what is not 0 to 3")
    static void promise22_noSuchClipOrWhat() {
        for (int clip : new int[] {-1, 2, MIN, MAX}) {
            Twins.asks("clipField " + clip + " 0", -1, x -> x.clipField(clip, 0));
            Twins.asks("clipField " + clip + " 4", -1, x -> x.clipField(clip, 4));
        }
        for (int what : new int[] {-1, 4, MIN, MAX}) {
            Twins.asks("clipField 1 " + what, -1, x -> x.clipField(1, what));
        }
        Check.due("no clip at all", new TranscriptCutter().clipField(0, 0), -1);
    }

    @Says("Returns the frame of the recording that is played in the film frame; "
            + "NONE if there is no such film frame.")
    static void promise23_edgesOfTheShots() {
        int[][] due = {{0, 20}, {25, 45}, {26, 0}, {49, 23}, {50, -1}, {-1, -1}, {MIN, -1}, {MAX, -1}};
        for (int[] pair : due) {
            Twins.asks("sourceOf " + pair[0], pair[1], x -> x.sourceOf(pair[0]));
        }
        Check.due("no film", new TranscriptCutter().sourceOf(0), -1);
        Check.due("the last frame", widest().sourceOf(99998), 99998);
        Check.due("behind it", widest().sourceOf(99999), -1);
    }

    @Says("Returns the word of the speaker that is heard in the film frame; NONE if there is none.")
    static void promise24_firstAndLastFrameOfWords() {
        int[][] due = {{0, -1}, {3, -1}, {4, 1}, {9, 1}, {10, -1}, {35, -1}, {36, 0}, {45, 0},
            {46, -1}, {49, -1}, {50, -1}, {-1, -1}, {MIN, -1}, {MAX, -1}};
        TranscriptCutter x = Twins.busy();
        for (int[] pair : due) {
            Check.due("heard " + pair[0], x.heard(pair[0], 0), pair[1]);
            Check.due("heard of the muted one " + pair[0], x.heard(pair[0], 1), -1);
        }
        x.restore(2, 2);
        Check.due("before its first frame", x.heard(7, 1), -1);
        Check.due("its first frame", x.heard(8, 1), 2);
        Check.due("the other one there", x.heard(8, 0), 1);
        Check.due("its last frame", x.heard(13, 1), 2);
        Check.due("behind it", x.heard(14, 1), -1);
        TranscriptCutter y = Check.loaded(TextEdges.words(40));
        Check.due("the 40th word", y.heard(78, 0), 39);
        Check.due("behind it", y.heard(79, 0), -1);
        Check.due("the last frame", y.heard(999, 0), -1);
    }

    @Says("int heard(int frame, int speaker) throws IndexOutOfBoundsException")
    static void promise24_noSuchSpeaker() {
        Twins.indexed("heard in a frame", 2, speaker -> x -> x.heard(5, speaker));
        Twins.indexed("heard in no frame", 2, speaker -> x -> x.heard(-1, speaker));
    }

    @Says("Returns the number of film frames in which no word is heard.")
    static void promise25_noneAndAll() {
        Check.due("no film", new TranscriptCutter().silence(), 0);
        Check.due("all is speech", Check.loaded(TIGHT).silence(), 0);
        Check.due("all but two", widest().silence(), 99997);
        Twins.asks("a muted word is not heard", 50 - 6 - 10, TranscriptCutter::silence);
        TranscriptCutter x = Twins.talk();
        x.cut(0, 3);
        Check.due("no film is left", x.silence(), 0);
    }

    @Says("Returns the number of film frames in which no word is heard.")
    static void promise25_wordsThatTouchAndOverlap() {
        TranscriptCutter x = Check.loaded("length 50;speaker a;speaker b;word a x 2 40;word b y 5 10;"
                + "word b z 39 48;");
        Check.due("only the ends are silent", x.silence(), 4);
        x.cutWord(2);
        Check.due("a word in another one", x.silence(), 12);
        x.cutWord(0);
        Check.due("the inner one alone", x.silence(), 45);
        TranscriptCutter y = Check.loaded("length 50;speaker a;speaker b;word a x 2 10;word b y 9 20;"
                + "word a z 20 30;");
        Check.due("words that touch", y.silence(), 50 - 28);
    }

    @Says("Returns the greatest number of film frames, one behind the other, "
            + "in which no word is heard.")
    static void promise26_atTheEndsAndOverShots() {
        Check.due("no film", new TranscriptCutter().longestSilence(), 0);
        Check.due("all is speech", Check.loaded(TIGHT).longestSilence(), 0);
        Twins.asks("over the edge of two shots", 16 + 10, TranscriptCutter::longestSilence);
        String words = "speaker a;word a x 10 20;word a y 30 40;";
        Check.due("at the beginning", Check.loaded("length 45;" + words).longestSilence(), 10);
        Check.due("at the end", Check.loaded("length 51;" + words).longestSilence(), 11);
        Check.due("between", Check.loaded("length 45;speaker a;word a x 1 20;word a y 25 44;")
                .longestSilence(), 5);
        Check.due("one frame at the end", Check.loaded("length 4;" + TIGHT.substring(9))
                .longestSilence(), 1);
    }

    @Says("Returns the greatest number of film frames, one behind the other, "
            + "in which no word is heard.")
    static void promise26_wordsThatTouchAndOverlap() {
        TranscriptCutter x = Check.loaded("length 50;speaker a;speaker b;word a x 2 40;word b y 5 10;"
                + "word b z 39 48;");
        Check.due("only the ends are silent", x.longestSilence(), 2);
        x.cutWord(0);
        Check.due("behind y", x.longestSilence(), 29);
        x.cutWord(1);
        Check.due("before z", x.longestSilence(), 39);
    }

    @Says("Returns the number of film frames in which a word of the speaker is heard.")
    static void promise27_noneAndAll() {
        Check.due("all frames", Check.loaded(TIGHT).speakingTime(0), 3);
        Check.due("a speaker without words", Check.loaded("speaker a;speaker b;word b x 1 2;")
                .speakingTime(0), 0);
        Twins.asks("kept words only", 16, x -> x.speakingTime(0));
        Twins.asks("a muted word", 0, x -> x.speakingTime(1));
        Check.due("a long word", Check.loaded("length 99999;speaker a;word a x 0 99999;")
                .speakingTime(0), 99999);
    }

    @Says("int speakingTime(int speaker) throws IndexOutOfBoundsException")
    static void promise27_noSuchSpeaker() {
        Twins.indexed("speakingTime", 2, speaker -> x -> x.speakingTime(speaker));
    }
}
