/** Full recordings and scripts, and what a text must not leave behind for the next one. */
final class LimitTest {
    private LimitTest() {
    }

    static void run() {
        fortyShots();
        fortyClips();
        fortyWordsOfOneBlock();
        nothingIsLeftOfTexts();
        nothingIsLeftOfScripts();
        thirtyCommands();
        fiveBlocksDeep();
    }

    /** 40 words, each in a block of its own: word k from 20 k + 5 to 20 k + 10. */
    private static TranscriptCutter forty() {
        StringBuilder text = new StringBuilder("speaker s;");
        for (int k = 0; k < 40; k++) {
            text.append("word s ").append(k == 39 ? "z" : "a").append(' ').append(20 * k + 5)
                    .append(' ').append(20 * k + 10).append(';');
        }
        return Check.loaded(text.toString());
    }

    private static void fortyShots() {
        TranscriptCutter x = forty();
        Check.due("forty: shots", x.shots(), 40);
        Check.due("forty: places", x.transcriptSize(), 40);
        Check.due("forty: last place", x.placeOf(39), 39);
        Check.due("forty: last word", x.transcriptWord(39), 39);
        Check.due("forty: clips", x.clips(), 1);
        Check.due("forty: shots of the clip", x.clipField(0, 3), 40);
        Check.due("forty: heard at the end", x.heard(999, 0), -1);
        Check.due("forty: heard", x.heard(789, 0), 39);
        Check.due("forty: source", x.sourceOf(999), 999);
        Check.due("forty: texts", x.differentTexts(), 2);
        Check.due("forty: occurrences", x.occurrences(0), 39);
        Check.due("forty: stutters", x.stutters(), 38);
        Check.due("forty: overlapping", x.wordField(39, 5), 0);
        Check.due("forty: speakers at the end", x.speakersAt(999), 0);
        Check.due("forty: last block", x.blockAt(999), 39);
        Check.due("forty: no such block", x.blockAt(1000), -1);
        Check.due("forty: silence", x.silence(), 1000 - 200);
        Check.due("forty: cut all", x.lengthIfCut(0, 39), 0);
        Check.due("forty: leave all out", x.shotsToCut(0), 40);
        Check.due("forty: leave one out", x.shotsToCut(999), 1);
        Check.due("forty: kept words of the last block", x.blockField(39, 3), 1);
        Check.due("forty: format", x.formatTranscript(), 40 + 39 * 3);
        Check.due("forty: format the last shot", x.formatShot(39), "s39 777-1000 s:z".length());
        Check.due("forty: a phrase that would go on", Check.run(x, "cut (z a);restore (z a);"
                + "clean (a a a a a z);move (a z) behind (z a);"), 4);
        Check.due("forty: fails", x.failed(), 3);
        Check.due("forty: clean", x.transcriptSize(), 34);
        x.restore(39, 39);
        Check.run(x, "restore (a z);restore (z a);");
        Check.due("forty: restore at the end", x.transcriptSize(), 36);
        x.restore(0, 39);
        Check.due("forty: restore all", x.transcriptSize(), 40);
        Check.due("forty: cut all of them", x.cut(0, 39) > 0, true);
        Check.due("forty: nothing is left", x.shots(), 0);
        Check.due("forty: back again", x.restore(0, 39), 40);
        Check.due("forty: length again", x.filmLength(), 1000);
    }

    private static void fortyClips() {
        TranscriptCutter x = forty();
        for (int k = 0; k < 39; k++) {
            Check.due("reverse " + k, x.move(39, 39, k - 1), k);
        }
        Check.due("reversed: clips", x.clips(), 40);
        for (int k = 0; k < 40; k++) {
            Check.due("reversed: block " + k, x.blockOf(k), 39 - k);
            Check.due("reversed: shots of clip " + k, x.clipField(k, 3), 1);
        }
        Check.due("reversed: last clip", x.clipField(39, 1), x.shotField(39, 1));
        Check.due("reversed: no such clip", x.clipField(40, 0), -1);
        Check.due("reversed: move all", x.move(0, 39, -1), 0);
        Check.due("reversed: undo", x.undoDepth(), 12);
    }

    private static void fortyWordsOfOneBlock() {
        StringBuilder text = new StringBuilder("speaker a;speaker b;speaker c;speaker d;");
        for (int k = 0; k < 40; k++) {
            text.append("word ").append("dbca".charAt(k % 4)).append(" x ").append(k).append(' ')
                    .append(k + 3).append(';');
        }
        TranscriptCutter x = Check.loaded(text.toString());
        Check.due("one block", x.count(3), 1);
        Check.due("one block: words", x.blockField(0, 2), 40);
        Check.due("one block: overlapping in the middle", x.wordField(20, 5), 4);
        Check.due("one block: overlapping at the end", x.wordField(39, 5), 2);
        Check.due("one block: speech", x.blockField(0, 1), 42);
        Check.due("one block: silence", x.silence(), 958);
        Check.due("one block: heard at the end", x.heard(999, 3), -1);
        Check.due("one block: cut all but one", x.cut(0, 38), 0);
        Check.due("one block: cut the last", x.cut(0, 0), 1000);
        TranscriptCutter y = Check.loaded("speaker d;speaker b;speaker c;speaker a;word a x 5 9;"
                + "word c x 5 6;word d x 5 7;word b x 5 8;word b x 4 5;");
        Check.due("one start: by speakers", y.wordField(0, 2) * 10000 + y.wordField(1, 2) * 1000
                + y.wordField(2, 2) * 100 + y.wordField(3, 2) * 10 + y.wordField(4, 2), 57869);
    }

    private static void nothingIsLeftOfTexts() {
        TranscriptCutter x = new TranscriptCutter();
        String small = "speaker s;word s so 11 12;";
        // Several times, for a text may be read into what an earlier one has left.
        for (int times = 0; times < 4; times++) {
            Check.fill(x, RecordingTest.TALK + "breath 0 5;");
            Check.due("a large text", x.load(), 9);
            Check.fill(x, RecordingTest.TALK + "breath 0 5;x");
            Check.notAllowed("a large wrong text", x::load);
            if (times % 2 == 1) {
                Check.fill(x, RecordingTest.TALK);
                x.load();
            }
            Check.fill(x, small);
            Check.due("a small text", x.load(), 1);
            Check.due("small: length", x.count(0), 1000);
            Check.due("small: handle", x.count(5), 12);
            Check.due("small: speakers", x.count(1), 1);
            Check.due("small: blocks", x.count(3), 1);
            Check.due("small: breaths", x.count(4), 0);
            Check.due("small: overlapping", x.wordField(0, 5), 0);
            Check.due("small: texts", x.differentTexts(), 1);
            Check.due("small: occurrences", x.occurrences(0), 1);
            Check.due("small: speakers at 35", x.speakersAt(35), 0);
            Check.due("small: block at 999", x.blockAt(999), 0);
            Check.due("small: snapped", x.isSnapped(0), false);
            Check.due("small: film", x.filmLength(), 1000);
            Check.noSuch("small: word 1", () -> x.wordField(1, 0));
            Check.noSuch("small: block 1", () -> x.blockField(1, 0));
            Check.noSuch("small: speaker 1", () -> x.speakingTime(1));
            x.cutWord(0);
            Check.run(x, "restore (so yes);");
            Check.due("small: the phrase of the large one", x.failed(), 1);
            Check.fill(x, "speaker s;word s so 11 12;word s yes 30 36;");
            Check.due("two words", x.load(), 2);
            Check.due("two words: no breath", x.blockField(0, 5), 21);
        }
    }

    private static void nothingIsLeftOfScripts() {
        TranscriptCutter x = Check.loaded(ScriptRunTest.spoken("a b c a b c"));
        for (int times = 0; times < 3; times++) {
            Check.script(x, "cut (x c c c c c);cut (x);repeat 9 {repeat 9 {cut (x);}}");
        }
        Check.due("one word of a phrase", Check.run(x, "cut (a);"), 1);
        Check.due("one word is cut", Check.film(x), "1 2 3 4 5 | 1 2 3 4 5");
        for (int times = 0; times < 3; times++) {
            Check.script(x, "repeat 9 {cut (x);}");
        }
        Check.due("if is no repeat", Check.run(x, "if (b) {cut (b);}"), 2);
        Check.due("one more is cut", Check.film(x), "2 3 4 5 | 2 3 4 5");
        for (int times = 0; times < 3; times++) {
            Check.script(x, "if (c) {cut (c);} else {cut (a);}");
        }
        Check.due("if without else", Check.run(x, "if (q) {cut (c);} cut (a);"), 2);
        Check.due("only the one behind it", Check.film(x), "2 4 5 | 2 4 5");
    }

    private static void thirtyCommands() {
        TranscriptCutter x = forty();
        Check.due("30 commands", Check.run(x, Check.repeated("cut(a);", 29) + "cut(z);"), 30);
        Check.due("30 commands: left", x.transcriptSize(), 10);
        Check.due("30 commands: failed", x.failed(), 0);
        Check.due("30 commands: all are done", x.placeOf(39), -1);
        x.undo();
        Check.run(x, "move (a a a a a a) behind (a z);cut (a a a a a a);");
        Check.due("phrases of six", x.transcriptSize(), 34);
    }

    private static void fiveBlocksDeep() {
        String open = Check.repeated("if (q) {cut (a);} else {", 5);
        TranscriptCutter x = Check.loaded(ScriptRunTest.spoken("a b"));
        Check.due("else five deep", Check.run(x, open + "cut (b);" + Check.repeated("}", 5)), 6);
        Check.due("else five deep: film", Check.film(x), "0 | 0");
        x.undo();
        open = Check.repeated("if (b) {", 5);
        Check.due("if five deep", Check.run(x, open + "cut (b);cut (a);" + Check.repeated("}", 5)), 7);
        Check.due("if five deep: film", Check.film(x), "|");
    }
}
