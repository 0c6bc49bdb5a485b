/** Promises 42 to 44: running scripts. */
final class ScriptRunTest {
    private ScriptRunTest() {
    }

    /** A text of one speaker, each of the words in a block of its own. */
    static String spoken(String words) {
        StringBuilder text = new StringBuilder("speaker s;");
        int start = 0;
        for (String word : words.split(" ")) {
            text.append("word s ").append(word).append(' ').append(start).append(' ')
                    .append(start + 5).append(';');
            start += 10;
        }
        return text.toString();
    }

    static void run() {
        cuts();
        cleans();
        restores();
        moves();
        movesInBlocks();
        branches();
        repeats();
        stops();
        latestRun();
    }

    /** Runs a script on such a text; the film must then have these words. */
    private static void ran(String words, String script, int begun, int failed, String due) {
        TranscriptCutter x = Check.loaded(spoken(words));
        Check.due(script + " on " + words, Check.run(x, script), begun);
        Check.due(script + " on " + words + ": failed", x.failed(), failed);
        Check.due(script + " on " + words + ": stopped", x.wasStopped(), false);
        x.formatTranscript();
        Check.due(script + " on " + words + ": words", Check.formatted(x).replace(" / ", " "), due);
        Check.due(script + " on " + words + ": recorded once", x.undo(), 0);
        x.formatTranscript();
        Check.due(script + " on " + words + ": undone", Check.formatted(x).replace(" / ", " "), words);
    }

    private static void cuts() {
        ran("a b c a b c", "cut (b c);", 1, 0, "a a b c");
        ran("a b c a b c", "cut (b a);", 1, 1, "a b c a b c");
        ran("a b c", "cut (a b c a);", 1, 1, "a b c");
        ran("a b c", "cut (a b c);cut (a);", 2, 1, "");
        ran("a b c", "cut (b);cut (a c);", 2, 0, "");
        ran("a aa a", "cut (aa);", 1, 0, "a a");
        ran("a b a c", "cut (a c);", 1, 0, "a b");
        ran("a b c d e f g", "cut (b c d e f g);", 1, 0, "a");
        ran("a b c", "cut (c);cut (a);", 2, 0, "b");
        TranscriptCutter x = Check.loaded(spoken("a b a"));
        Check.run(x, "cut (a);");
        Check.due("the first one is cut", Check.film(x), "1 2 | 1 2");
    }

    private static void cleans() {
        ran("um a um b um", "clean (um);", 1, 0, "a b");
        ran("a a b b c", "clean (a b);", 1, 0, "c");
        ran("a a a", "clean (a a);", 1, 0, "a");
        ran("a b", "clean (c);", 1, 1, "a b");
        ran("a b", "clean (a);clean (a);", 2, 1, "b");
        TranscriptCutter x = Check.loaded(RecordingTest.TALK);
        Check.run(x, "clean (so);clean (we);");
        Check.due("clean in blocks", Check.film(x), "2 4 6 7 8 | 1 2 3");
    }

    private static void restores() {
        ran("a b a b", "cut (a b);cut (a b);restore (a b);", 3, 0, "a b");
        ran("a b", "restore (a);", 1, 1, "a b");
        ran("a b", "restore (c);", 1, 1, "a b");
        ran("a b", "cut (a);restore (a b a);", 2, 1, "b");
        ran("a b c", "cut (b);restore (a b c);", 2, 0, "a b c");
        ran("a b c", "cut (a b c);restore (b);restore (c);restore (a);", 4, 0, "a b c");
        TranscriptCutter x = Check.loaded(spoken("a a a"));
        x.cutWord(2);
        Check.run(x, "restore (a a);");
        Check.due("the first place where one is not kept", Check.film(x), "0 1 2 | 0 1 2");
        x.cutWord(0);
        x.cutWord(2);
        Check.run(x, "restore (a);");
        Check.due("one of two", Check.film(x), "0 1 | 0 1");
        TranscriptCutter y = Check.loaded(spoken("a b c"));
        y.move(2, 2, -1);
        y.setHandles(1, 5, 5);
        y.cutWord(1);
        Check.run(y, "restore (b c);restore (c a);");
        Check.due("by the numbers of the words", Check.film(y), "2 0 1 | 2 0 1");
        Check.due("by the numbers: failed", y.failed(), 1);
        Check.due("the head is 0 again", y.blockField(1, 6), 0);
        Check.due("the kept one keeps its head", y.blockField(2, 6), 12);
    }

    private static void moves() {
        ran("a b c d", "move (a b) behind (d);", 1, 0, "c d a b");
        ran("a b c d", "move (d) behind (a);", 1, 0, "a d b c");
        ran("a b c d", "move (b) behind (b c);", 1, 0, "a c b d");
        ran("a b c d", "move (b c) behind (b);", 1, 1, "a b c d");
        ran("a b c d", "move (b c) behind (a b);", 1, 1, "a b c d");
        ran("a b c d", "move (b c) behind (d a);", 1, 1, "a b c d");
        ran("a b c d", "move (c b) behind (d);", 1, 1, "a b c d");
        ran("a b c d", "move (x) behind (d);move (a) behind (x);", 2, 2, "a b c d");
        ran("a b c d", "move (b) behind (a);", 1, 0, "a b c d");
        ran("a b c a", "move (a) behind (c);", 1, 0, "b c a a");
        TranscriptCutter x = Check.loaded("handle 3;" + spoken("a b c d"));
        Check.run(x, "move (b c) behind (a);move (d) behind (d);");
        Check.due("a move sets handles", Check.state(x),
                "0 1 2 3 | 0 1 2 3 0/0 3/0 0/3 0/0 undo 1 length 1005");
        Check.due("a move behind itself fails", x.failed(), 1);
    }

    private static void movesInBlocks() {
        TranscriptCutter x = Check.loaded(RecordingTest.TALK);
        Check.run(x, "move (yes) behind (we);");
        Check.due("within one shot", x.failed(), 1);
        Check.run(x, "move (we ok) behind (bye);");
        Check.due("from a word within a shot on", Check.film(x), "0 1 7 8 2 3 4 5 6 | 0 3 1 2");
        Check.due("its head", x.blockField(1, 6), 7);
        Check.due("its tail", x.blockField(2, 7), 7);
        Check.run(x, "move (so) behind (bye end yes);");
        Check.due("behind the last word's shot", Check.film(x), "7 8 2 3 4 5 0 1 6 | 3 1 0 2");
    }

    private static void branches() {
        ran("a b c", "if (a b) {cut (a);} else {cut (c);}", 2, 0, "b c");
        ran("a b c", "if (b a) {cut (a);} else {cut (c);}", 2, 0, "a b");
        ran("a b c", "if (b a) {cut (a);cut (b);} cut (c);", 2, 0, "a b");
        ran("a b c", "if (a) {} else {cut (a);} if (x) {cut (b);} else {}", 2, 0, "a b c");
        ran("a b c", "cut (a);if (a) {cut (b);} else {if (b) {cut (c);}}", 4, 0, "b");
        ran("a b c", "if (a) {if (x) {cut (a);} else {cut (b);}} else {cut (c);}", 3, 0, "a c");
        ran("a b c", "if (a) {cut (x);}", 2, 1, "a b c");
    }

    private static void repeats() {
        ran("a a a a", "repeat 3 {cut (a);}", 4, 0, "a");
        ran("a a", "repeat 3 {cut (a);}", 4, 1, "");
        ran("a a a a a", "repeat 2 {repeat 2 {cut (a);}}", 7, 0, "a");
        ran("a b a b a", "repeat 2 {cut (a);cut (b);} cut (a);", 6, 0, "");
        ran("a b", "repeat 9 {} cut (b);", 2, 0, "a");
        ran("a b a", "repeat 2 {if (b) {cut (b);} else {cut (a);}}", 5, 0, "a");
    }

    private static void stops() {
        String x91 = "repeat 9 {repeat 9 {cut (q);}}";
        TranscriptCutter x = Check.loaded(spoken("a b"));
        Check.due("200 commands", Check.run(x, x91 + x91 + Check.repeated("cut (q);", 17)
                + "cut (a);"), 200);
        Check.due("200 commands: stopped", x.wasStopped(), false);
        Check.due("200 commands: failed", x.failed(), 162 + 17);
        Check.due("200 commands: the last one is done", Check.film(x), "1 | 1");
        x.undo();
        Check.due("201 commands", Check.run(x, x91 + x91 + Check.repeated("cut (q);", 18)
                + "cut (a);"), 200);
        Check.due("201 commands: stopped", x.wasStopped(), true);
        Check.due("201 commands: failed", x.failed(), 162 + 18);
        Check.due("201 commands: the last one is not done", Check.film(x), "0 1 | 0 1");
        Check.due("a stopped run is recorded", x.undo(), 0);

        Check.due("stopped within", Check.run(x, "cut (a);repeat 9 {" + x91
                + "} cut (b);"), 200);
        Check.due("stopped within: nothing goes on", Check.film(x), "1 | 1");
        Check.due("stopped within: stopped", x.wasStopped(), true);
        // After 1 for the cut, 1 for the outer repeat, 91 and 91 there are 16 left: 1 for the
        // repeat, 1 for the inner one, 9 cuts, 1 for the next inner one and 4 cuts.
        Check.due("stopped within: failed", x.failed(), 81 + 81 + 13);
        x.undo();
        Check.due("an if within", Check.run(x, Check.repeated("repeat 9 {", 3)
                + "if (q) {} else {cut (b);}" + Check.repeated("}", 3)), 200);
        Check.due("an if within: stopped", x.wasStopped(), true);
        x.runScript();
        Check.due("stopped again", x.wasStopped(), true);
        Check.due("deepest blocks", Check.run(x, Check.repeated("repeat 1 {", 5) + "cut (a);"
                + Check.repeated("}", 5)), 6);
        Check.due("deepest blocks: not stopped any more", x.wasStopped(), false);
        Check.due("deepest blocks: film", Check.film(x), "|");
        Check.due("many empty blocks", Check.run(x, Check.repeated("repeat 9 {", 5)
                + Check.repeated("}", 5)), 200);
        Check.due("many empty blocks: stopped", x.wasStopped(), true);
    }

    private static void latestRun() {
        TranscriptCutter x = Check.loaded(spoken("a b"));
        Check.run(x, "cut (q);cut (q);");
        Check.due("two failed", x.failed(), 2);
        Check.run(x, "cut (q);");
        Check.due("one failed", x.failed(), 1);
        Check.run(x, "");
        Check.due("none failed", x.failed(), 0);
        Check.due("three runs are recorded", x.undoDepth(), 3);
    }
}
