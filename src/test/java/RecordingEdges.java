/** The edges of blocks and cut points, and of promises 8 to 16. */
final class RecordingEdges {
    private static final int MIN = Integer.MIN_VALUE;
    private static final int MAX = Integer.MAX_VALUE;
    private static final String TWO = "length 200;speaker a;speaker b;speaker c;";

    private RecordingEdges() {
    }

    private static TranscriptCutter of(String words) {
        return Check.loaded(TWO + words);
    }

    // ---- blocks

    @Says("Two words overlap if they share a frame.")
    static void blocks_touchingAndSharingOneFrame() {
        TranscriptCutter touching = of("word a x 0 10;word b y 10 20;");
        Check.due("touching words overlap", touching.overlap(0, 1), false);
        Check.due("touching: blocks", touching.count(3), 2);
        TranscriptCutter sharing = of("word a x 0 10;word b y 9 20;");
        Check.due("words with one common frame overlap", sharing.overlap(0, 1), true);
        Check.due("sharing: blocks", sharing.count(3), 1);
        TranscriptCutter same = of("word a x 5 6;word b y 5 6;");
        Check.due("words of the same frame overlap", same.overlap(1, 0), true);
        TranscriptCutter parted = of("word a x 0 10;word b y 11 20;");
        Check.due("parted: blocks", parted.count(3), 2);
    }

    @Says("two words are in one block if one can go from one of them to the other one by words each "
            + "of which overlaps the next one")
    static void blocks_hangTogether() {
        TranscriptCutter chain = of("word a x 0 10;word b y 9 12;word c z 11 13;word a u 13 14;");
        Check.due("chain: blocks", chain.count(3), 2);
        Check.due("chain: the ends do not overlap", chain.overlap(0, 2), false);
        Check.due("chain: its end", chain.wordField(2, 3), 0);
        Check.due("chain: behind its end", chain.wordField(3, 3), 1);
        TranscriptCutter roof = of("word a x 0 100;word b y 5 10;word b z 99 101;word c u 101 102;");
        Check.due("roof: blocks", roof.count(3), 2);
        Check.due("roof: under it", roof.wordField(2, 3), 0);
        Check.due("roof: behind it", roof.wordField(3, 3), 1);
    }

    @Says("Blocks are numbered from 0 in the order of their first words.")
    static void blocks_firstAndLastNumber() {
        TranscriptCutter x = Check.loaded(TextEdges.words(40));
        Check.due("blocks", x.count(3), 40);
        for (int word = 0; word < 40; word++) {
            Check.due("block of word " + word, x.wordField(word, 3), word);
        }
    }

    @Says("The speech of a block reaches from the least start to the greatest end of its words.")
    static void blocks_greatestEndIsNotTheLast() {
        TranscriptCutter x = of("word a x 7 100;word b y 8 10;word c z 20 30;");
        Check.due("start", x.blockField(0, 0), 7);
        Check.due("end", x.blockField(0, 1), 100);
        TranscriptCutter y = of("word a x 7 100;word b y 99 101;");
        Check.due("end of the last word", y.blockField(0, 1), 101);
    }

    @Says("The gap behind a block reaches from the end of its speech to the start of the speech of "
            + "the next block; it may have no frames.")
    static void blocks_gapWithoutFrames() {
        TranscriptCutter x = of("word a x 0 10;word b y 10 20;breath 5 15;");
        Check.due("range end", x.blockField(0, 5), 10);
        Check.due("range start", x.blockField(1, 4), 10);
        Check.due("no breath shares frames with it", x.isSnapped(0), false);
        Check.due("frame before", x.blockAt(9), 0);
        Check.due("frame behind", x.blockAt(10), 1);
    }

    // ---- cut points

    /** The cut point in a gap from 10 to 21. */
    private static void cutPoint(String breaths, int due, boolean snapped) {
        TranscriptCutter x = of("word a x 5 10;word a y 21 30;" + breaths);
        Check.due("'" + breaths + "' range end", x.blockField(0, 5), due);
        Check.due("'" + breaths + "' range start", x.blockField(1, 4), due);
        Check.due("'" + breaths + "' snapped", x.isSnapped(0), snapped);
    }

    @Says("Each block but the last one has a cut point in the gap behind it.")
    static void cutPoints_lastBlock() {
        TranscriptCutter x = of("word a x 5 10;breath 100 110;breath 0 3;");
        Check.due("a single block: range start", x.blockField(0, 4), 0);
        Check.due("a single block: range end", x.blockField(0, 5), 200);
        Check.due("a single block: snapped", x.isSnapped(0), false);
    }

    @Says("If some breath shares frames with the gap")
    static void cutPoints_breathWithNoneAndOneFrame() {
        cutPoint("breath 0 10;", 15, false);
        cutPoint("breath 0 11;", 10, true);
        cutPoint("breath 10 11;", 10, true);
        cutPoint("breath 20 21;", 20, true);
        cutPoint("breath 20 99;", 20, true);
        cutPoint("breath 21 99;", 15, false);
        cutPoint("breath 9 10;breath 21 22;", 15, false);
    }

    @Says("the breath with the most such frames is taken")
    static void cutPoints_mostFramesInTheGap() {
        cutPoint("breath 0 12;breath 16 19;", 17, true);
        cutPoint("breath 16 19;breath 0 12;", 17, true);
        cutPoint("breath 18 99;breath 11 15;", 13, true);
        cutPoint("breath 0 99;breath 12 14;", 15, true);
    }

    @Says("of several the one that stands first in the input text")
    static void cutPoints_asManyFrames() {
        cutPoint("breath 17 19;breath 11 13;", 18, true);
        cutPoint("breath 11 13;breath 17 19;", 12, true);
        cutPoint("breath 16 17;breath 18 20;breath 11 13;breath 14 16;", 19, true);
    }

    @Says("the middle of the first of these frames and the frame behind the last one, rounded down")
    static void cutPoints_breathRoundedDown() {
        cutPoint("breath 12 14;", 13, true);
        cutPoint("breath 12 15;", 13, true);
        cutPoint("breath 12 16;", 14, true);
        cutPoint("breath 13 16;", 14, true);
        cutPoint("breath 0 13;", 11, true);
        cutPoint("breath 18 99;", 19, true);
    }

    @Says("Otherwise the cut point is the middle of the start and the end of the gap, rounded down.")
    static void cutPoints_gapRoundedDown() {
        int[][] due = {{11, 10}, {12, 11}, {13, 11}, {14, 12}, {10, 10}};
        for (int[] pair : due) {
            TranscriptCutter x = of("word a x 5 10;word a y " + pair[0] + " 30;");
            Check.due("gap from 10 to " + pair[0], x.blockField(0, 5), pair[1]);
        }
        TranscriptCutter y = Check.loaded("length 99999;speaker a;word a x 0 99997;word a y 99998 99999;");
        Check.due("a gap of great numbers", y.blockField(0, 5), 99997);
    }

    @Says("from frame 0 for the first block) to its own cut point (to the length for the last block)")
    static void cutPoints_firstAndLastRange() {
        TranscriptCutter x = Twins.talk();
        int[] ends = {0, 22, 41, 100};
        for (int block = 0; block < 3; block++) {
            Check.due("range start of " + block, x.blockField(block, 4), ends[block]);
            Check.due("range end of " + block, x.blockField(block, 5), ends[block + 1]);
        }
        TranscriptCutter y = Check.loaded("length 2;speaker a;word a x 0 1;word a y 1 2;");
        Check.due("no frame before", y.blockField(0, 4), 0);
        Check.due("no frame behind", y.blockField(1, 5), 2);
    }

    // ---- promises 8 to 16

    private static void count(TranscriptCutter x, int... due) {
        for (int what = 0; what < 6; what++) {
            Check.due("count " + what, x.count(what), due[what]);
        }
    }

    @Says("Returns that number; NONE if what is not 0 to 5.")
    static void promise08_emptyAndFull() {
        count(new TranscriptCutter(), 1000, 0, 0, 0, 0, 12);
        count(Check.loaded("length 1;handle 0;"), 1, 0, 0, 0, 0, 0);
        count(Check.loaded(TextEdges.words(40) + "length 99999;handle 999;speaker b;speaker c;"
                + "speaker d;" + "breath 1 2;".repeat(12)), 99999, 4, 40, 40, 12, 999);
    }

    @Says("Returns that number; NONE if what is not 0 to 5.")
    static void promise08_whatOutOfRange() {
        Check.due("the last one", Twins.talk().count(5), 7);
        Check.due("the first one", Twins.talk().count(0), 100);
        for (int what : new int[] {-1, 6, MIN, MAX}) {
            Twins.asks("count " + what, -1, x -> x.count(what));
        }
    }

    @Says("Returns that property of the word; NONE if what is not 0 to 5.")
    static void promise09_whatOutOfRange() {
        TranscriptCutter x = Twins.talk();
        int[][] due = {{0, 10, 20, 0, 0, 0}, {0, 24, 30, 1, 0, 1}, {1, 28, 34, 1, 0, 1},
            {0, 60, 70, 2, 0, 0}};
        for (int word = 0; word < 4; word++) {
            for (int what = 0; what < 6; what++) {
                Check.due("wordField " + word + " " + what, x.wordField(word, what), due[word][what]);
            }
        }
        for (int what : new int[] {-1, 6, MIN, MAX}) {
            Twins.asks("wordField 3 " + what, -1, y -> y.wordField(3, what));
        }
    }

    @Says("int wordField(int word, int what) throws IndexOutOfBoundsException")
    static void promise09_noSuchWord() {
        Twins.indexed("wordField 0", 4, word -> x -> x.wordField(word, 0));
        Twins.indexed("wordField 6", 4, word -> x -> x.wordField(word, 6));
    }

    @Says("4 the state (KEPT, MUTED or CUT)")
    static void promise09_states() {
        int[] due = {TranscriptCutter.KEPT, TranscriptCutter.KEPT, TranscriptCutter.MUTED,
            TranscriptCutter.CUT};
        for (int word = 0; word < 4; word++) {
            int one = word;
            Twins.asks("state of " + word, due[word], x -> x.wordField(one, 4));
        }
    }

    @Says("5 the number of words that overlap it")
    static void promise09_noneAndManyOverlapping() {
        StringBuilder text = new StringBuilder(TWO + "word a roof 10 88;");
        for (int k = 0; k < 39; k++) {
            text.append("word b x ").append(9 + 2 * k).append(' ').append(10 + 2 * k).append(';');
        }
        TranscriptCutter x = Check.loaded(text.toString());
        Check.due("all but the one that it touches", x.wordField(1, 5), 38);
        Check.due("the one that it touches", x.wordField(0, 5), 0);
        Check.due("one", x.wordField(39, 5), 1);
        TranscriptCutter y = of("word a x 10 20;word b y 20 30;word c z 9 10;word c w 19 21;");
        Check.due("touched on both sides", y.wordField(1, 5), 1);
        Check.due("the first word alone", of("word a x 1 9;word b y 8 10;").wordField(1, 5), 1);
    }

    @Says("Returns true if both words have the same text.")
    static void promise10_sameAndAlmostSame() {
        TranscriptCutter x = of("word a abcdef 1 2;word a abcdeg 2 3;word a abcde 3 4;"
                + "word b abcdef 1 2;word c bcdef 4 5;");
        Check.due("itself", x.isSameText(0, 0), true);
        Check.due("of another speaker", x.isSameText(0, 1), true);
        Check.due("another last letter", x.isSameText(0, 2), false);
        Check.due("a letter less", x.isSameText(3, 0), false);
        Check.due("without the first letter", x.isSameText(0, 4), false);
    }

    @Says("boolean isSameText(int word, int other) throws IndexOutOfBoundsException")
    static void promise10_noSuchWord() {
        Twins.indexed("isSameText word", 4, word -> x -> x.isSameText(word, 0) ? 1 : 0);
        Twins.indexed("isSameText other", 4, word -> x -> x.isSameText(0, word) ? 1 : 0);
    }

    @Says("Returns true if the words overlap (a word overlaps itself).")
    static void promise11_itselfAndNeighbours() {
        TranscriptCutter x = of("word a x 10 20;word b y 20 21;word c z 9 11;word b u 19 20;");
        Check.due("itself", x.overlap(1, 1), true);
        Check.due("one frame at its start", x.overlap(0, 1), true);
        Check.due("one frame at its end", x.overlap(1, 2), true);
        Check.due("behind its end", x.overlap(1, 3), false);
        Check.due("and the other way round", x.overlap(3, 1), false);
        Twins.asks("cut and muted words overlap, too", 1, y -> y.overlap(2, 1) ? 1 : 0);
    }

    @Says("boolean overlap(int word, int other) throws IndexOutOfBoundsException")
    static void promise11_noSuchWord() {
        Twins.indexed("overlap word", 4, word -> x -> x.overlap(word, 0) ? 1 : 0);
        Twins.indexed("overlap other", 4, word -> x -> x.overlap(0, word) ? 1 : 0);
    }

    @Says("Returns the number of different texts of all words.")
    static void promise12_noneOneAndForty() {
        Check.due("no words", new TranscriptCutter().differentTexts(), 0);
        Check.due("one word", of("word a x 1 2;").differentTexts(), 1);
        Check.due("all alike", Check.loaded(TextEdges.words(40)).differentTexts(), 1);
        StringBuilder text = new StringBuilder("speaker a;");
        for (int k = 0; k < 40; k++) {
            text.append("word a ").append((char) ('a' + k % 26)).append(k < 26 ? "" : "a").append(' ')
                    .append(2 * k).append(' ').append(2 * k + 1).append(';');
        }
        TranscriptCutter x = Check.loaded(text.toString());
        Check.due("all different", x.differentTexts(), 40);
        x.cut(0, 39);
        Check.due("all cut", x.differentTexts(), 40);
    }

    @Says("Returns that property of the block; NONE if what is not 0 to 8.")
    static void promise13_whatOutOfRange() {
        int[][] due = {{10, 20, 1, 1, 0, 22, 7, 7, 1}, {24, 34, 2, 1, 22, 41, 3, 5, 0},
            {60, 70, 1, 0, 41, 100, 0, 0, -1}};
        for (int block = 0; block < 3; block++) {
            TranscriptCutter x = Twins.busy();
            for (int what = 0; what < 9; what++) {
                Check.due("blockField " + block + " " + what, x.blockField(block, what),
                        due[block][what]);
            }
        }
        for (int what : new int[] {-1, 9, MIN, MAX}) {
            Twins.asks("blockField 2 " + what, -1, x -> x.blockField(2, what));
        }
    }

    @Says("int blockField(int block, int what) throws IndexOutOfBoundsException")
    static void promise13_noSuchBlock() {
        Twins.indexed("blockField 0", 3, block -> x -> x.blockField(block, 0));
        Twins.indexed("blockField 9", 3, block -> x -> x.blockField(block, 9));
    }

    @Says("8 the number of its shot in the film (NONE if it is not in the film)")
    static void promise13_blockInAndOutOfTheFilm() {
        TranscriptCutter x = Check.loaded(TextEdges.words(40));
        Check.due("the last shot", x.blockField(39, 8), 39);
        x.cutWord(0);
        Check.due("the last shot then", x.blockField(39, 8), 38);
        Check.due("out of the film", x.blockField(0, 8), -1);
        x.restore(0, 0);
        Check.due("back", x.blockField(0, 8), 0);
    }

    @Says("Returns the block in whose range the frame is; NONE if there is none.")
    static void promise14_edgesOfTheRanges() {
        TranscriptCutter x = Twins.busy();
        int[][] due = {{0, 0}, {21, 0}, {22, 1}, {40, 1}, {41, 2}, {99, 2}, {100, -1}, {-1, -1},
            {MIN, -1}, {MAX, -1}};
        for (int[] pair : due) {
            Check.due("blockAt " + pair[0], x.blockAt(pair[0]), pair[1]);
        }
        TranscriptCutter forty = Check.loaded(TextEdges.words(40));
        Check.due("the 40th block", forty.blockAt(999), 39);
        Check.due("behind it", forty.blockAt(1000), -1);
        Check.due("no block", new TranscriptCutter().blockAt(0), -1);
        Check.due("no block of a recording", Check.loaded("length 7;speaker a;").blockAt(6), -1);
    }

    @Says("Returns true if the cut point of the block was snapped to a breath; "
            + "false also for the last block.")
    static void promise15_lastBlock() {
        TranscriptCutter x = of("word a x 5 10;word a y 20 30;breath 12 15;breath 40 45;");
        Check.due("the block before", x.isSnapped(0), true);
        Check.due("the last block", x.isSnapped(1), false);
        TranscriptCutter y = of("word a x 5 10;word a y 20 30;breath 14 16;");
        Check.due("snapped to where it is without", y.isSnapped(0), true);
    }

    @Says("boolean isSnapped(int block) throws IndexOutOfBoundsException")
    static void promise15_noSuchBlock() {
        Twins.indexed("isSnapped", 3, block -> x -> x.isSnapped(block) ? 1 : 0);
    }

    @Says("Returns the set of the speakers who speak in the frame of the recording, as a bit set "
            + "(bit k stands for speaker k).")
    static void promise16_nobodyAndAllFour() {
        TranscriptCutter x = of("speaker d;word a x 0 9;word b x 1 8;word c x 2 7;word d x 3 200;");
        int[][] due = {{-1, 0}, {0, 1}, {1, 3}, {2, 7}, {3, 15}, {6, 15}, {7, 11}, {8, 9}, {9, 8},
            {199, 8}, {200, 0}, {MIN, 0}, {MAX, 0}};
        for (int[] pair : due) {
            Check.due("speakersAt " + pair[0], x.speakersAt(pair[0]), pair[1]);
        }
        x.cut(0, 3);
        Check.due("cut words are spoken all the same", x.speakersAt(3), 15);
        TranscriptCutter forty = Check.loaded(TextEdges.words(40));
        Check.due("the 40th word", forty.speakersAt(78), 1);
        Check.due("behind it", forty.speakersAt(79), 0);
        Check.due("no words", new TranscriptCutter().speakersAt(0), 0);
    }
}
