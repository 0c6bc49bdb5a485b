/** The edges of running a script, and of promises 42 to 44. */
final class RunEdges {
    /** Begins 91 commands, of which 81 fail. */
    private static final String RUN91 = "repeat 9 {repeat 9 {cut (q);}}";

    private RunEdges() {
    }

    /** Runs a script on words, each in a block of its own; the transcript must then be as due. */
    private static void ran(String words, String script, int failed, String due) {
        TranscriptCutter x = Check.loaded(ScriptRunTest.spoken(words));
        Check.run(x, script);
        x.formatTranscript();
        String what = script + " on " + words;
        Check.due(what, Check.formatted(x).replace(" / ", " "), due);
        Check.due(what + ": failed", x.failed(), failed);
    }

    private static void filmAfter(TranscriptCutter x, String script, String due) {
        Check.run(x, script);
        Check.due(script, Check.film(x), due + " | " + due);
    }

    @Says("The commands are executed in order.")
    static void running_inOrder() {
        ran("a b c", "cut (a);if (a) {cut (b);} else {cut (c);}", 0, "b");
        ran("a b c", "move (a) behind (c);cut (b c a);", 0, "");
        ran("a b c", "cut (b);restore (b);cut (a b c);", 0, "");
        ran("a b c", "restore (b);cut (b);", 1, "a c");
    }

    @Says("\"cut\" cuts the words of the phrase, if it is found.")
    static void running_cutOnce() {
        ran("a b a b", "cut (a b);", 0, "a b");
        ran("a b", "cut (a b);", 0, "");
        ran("a b", "cut (b a);", 1, "a b");
        ran("a b a", "cut (b);cut (a a);", 0, "");
        filmAfter(Check.loaded(ScriptRunTest.spoken("a a a")), "cut (a);", "1 2");
    }

    @Says("\"clean\" cuts the words of the phrase as often as it is found.")
    static void running_cleanNoneOnceAndForty() {
        ran("a b", "clean (c);", 1, "a b");
        ran("a b", "clean (a);", 0, "b");
        ran("a b a b", "clean (a b);", 0, "");
        ran("a a b b c", "clean (a b);", 0, "c");
        ran("a a a", "clean (a a);", 0, "a");
        TranscriptCutter x = Check.loaded(TextEdges.words(40));
        Check.due("clean of forty: begun", Check.run(x, "clean (x);clean (x);"), 2);
        Check.due("clean of forty", Check.film(x), "|");
        Check.due("the second one finds nothing", x.failed(), 1);
    }

    @Says("\"restore\" looks for the phrase in the row of all words of the recording, by their numbers")
    static void running_restoreByNumbers() {
        TranscriptCutter x = Check.loaded(ScriptRunTest.spoken("a b c"));
        x.move(2, 2, -1);
        x.cutWord(1);
        Check.run(x, "restore (c b);");
        Check.due("by places it would stand there", x.failed(), 1);
        filmAfter(x, "restore (b c);", "2 0 1");
    }

    @Says("of which at least one is not kept, all of them are restored")
    static void running_restoreOneNotKept() {
        ran("a b c", "restore (a b c);", 1, "a b c");
        for (int word = 0; word < 3; word++) {
            TranscriptCutter x = Check.loaded(ScriptRunTest.spoken("a b c"));
            x.cutWord(word);
            filmAfter(x, "restore (a b c);", "0 1 2");
        }
        ran("a b c", "cut (a b c);restore (a b c);", 0, "a b c");
        ran("a b c", "cut (a b c);restore (b);", 0, "b");
        ran("a b c", "cut (a b);restore (a c);restore (b a);", 2, "c");
        ran("a b c d", "cut (a b c d);restore (b c);", 0, "b c");
    }

    @Says("at the first place at which words with these texts follow each other of which at least "
            + "one is not kept")
    static void running_restoreFirstPlace() {
        TranscriptCutter x = Check.loaded(ScriptRunTest.spoken("a a a a"));
        x.cutWord(1);
        x.cutWord(3);
        filmAfter(x, "restore (a);", "0 1 2");
        x.cutWord(0);
        filmAfter(x, "restore (a a);", "0 1 2");
        filmAfter(x, "restore (a a);", "0 1 2 3");
        Check.due("found at the last place", x.failed(), 0);
        Check.run(x, "restore (a a);");
        Check.due("all are kept", x.failed(), 1);
    }

    @Says("at the first place at which words with these texts follow each other")
    static void running_restorePastTheEnd() {
        ran("a b c", "cut (c);restore (b c a);restore (c a);restore (a b c a b c);", 3, "a b");
        ran("a b c d e f", "cut (f);restore (a b c d e f);", 0, "a b c d e f");
        TranscriptCutter x = Check.loaded(TextEdges.words(39) + "word a z 78 79;");
        x.cutWord(39);
        Check.run(x, "restore (z x);restore (x z x);restore (z);");
        Check.due("past the end of forty", x.failed(), 2);
        Check.due("the end of forty", x.placeOf(39), 39);
        Check.due("nothing in nothing", Check.run(new TranscriptCutter(), "restore (a);"), 1);
    }

    @Says("the shots from that of the first word to that of the last word of the first phrase are "
            + "moved directly behind the shot of the last word of the second phrase")
    static void running_moveFirstAndLastShot() {
        ran("a b c d", "move (a) behind (d);", 0, "b c d a");
        ran("a b c d", "move (d) behind (a);", 0, "a d b c");
        ran("a b c d", "move (c d) behind (a);", 0, "a c d b");
        ran("a b c d", "move (a b c) behind (d);", 0, "d a b c");
        ran("a b c d", "move (a) behind (b c d);", 0, "b c d a");
        ran("a b c d", "move (b c) behind (a);", 0, "a b c d");
        TranscriptCutter x = Twins.talk();
        Check.run(x, "move (yes bye) behind (hi);");
        Check.due("from a word in the middle of a shot", Check.state(x),
                "0 1 2 3 | 0 1 2 0/0 7/0 0/7 undo 1 length 102");
        Check.run(x, "move (hi) behind (so);");
        Check.due("behind a word in the middle of a shot", Check.film(x), "1 2 0 3 | 1 0 2");
    }

    @Says("it fails if this shot is one of them")
    static void running_moveBehindItself() {
        ran("a b c d", "move (b) behind (b);", 1, "a b c d");
        ran("a b c d", "move (b c) behind (b);", 1, "a b c d");
        ran("a b c d", "move (b c) behind (c);", 1, "a b c d");
        ran("a b c d", "move (b c) behind (a b);", 1, "a b c d");
        ran("a b c d", "move (b c) behind (c d);", 0, "a d b c");
        ran("a b c d", "move (a b c d) behind (d);", 1, "a b c d");
        TranscriptCutter x = Twins.talk();
        Check.run(x, "move (so) behind (yes);");
        Check.due("within a shot", x.failed(), 1);
        Check.due("no handle is set", Check.state(x),
                "0 1 2 3 | 0 1 2 0/0 0/0 0/0 undo 1 length 100");
    }

    @Says("\"if\" executes the first block if its phrase is found in the transcript, otherwise the "
            + "second one, if there is one.")
    static void running_ifFoundOrNot() {
        ran("a b c", "if (b c) {cut (a);} else {cut (b);}", 0, "b c");
        ran("a b c", "if (c b) {cut (a);} else {cut (b);}", 0, "a c");
        ran("a b c", "if (c b) {cut (a);}", 0, "a b c");
        ran("a b c", "if (c b) {cut (a);} cut (c);", 0, "a b");
        ran("a b c", "if (c) {} else {cut (b);}", 0, "a b c");
        ran("a b c", "if (x) {cut (a);} else {}", 0, "a b c");
        ran("a b c", "cut (c);if (c) {cut (a);} else {cut (b);}", 0, "a");
        ran("a b c", "if (a b c a) {cut (a);} else {cut (b);}", 0, "a c");
    }

    @Says("\"repeat\" executes its block so many times.")
    static void running_repeatOneAndNine() {
        ran("a a a", "repeat 1 {cut (a);}", 0, "a a");
        ran("a a a a a a a a a a", "repeat 9 {cut (a);}", 0, "a");
        ran("a b a b", "repeat 2 {cut (a);cut (b);}", 0, "");
        ran("a b", "repeat 9 {}", 0, "a b");
        ran("a a a", "repeat 2 {cut (a);} cut (a);", 0, "");
    }

    @Says("A command counts as begun each time it is executed, \"if\" and \"repeat\" included.")
    static void running_begunCommands() {
        TranscriptCutter x = Check.loaded(ScriptRunTest.spoken("a b"));
        Check.due("repeat", Check.run(x, "repeat 9 {}"), 1);
        Check.due("repeat with its block", Check.run(x, "repeat 9 {cut (q);}"), 10);
        Check.due("if", Check.run(x, "if (a) {} else {cut (q);}"), 1);
        Check.due("if with its block", Check.run(x, "if (a) {cut (q);} else {}"), 2);
        Check.due("else", Check.run(x, "if (q) {} else {cut (q);cut (q);}"), 3);
        Check.due("a clean counts once", Check.run(x, "clean (a);"), 1);
    }

    @Says({"A \"cut\", \"clean\", \"restore\" or \"move\" whose phrase (or one of whose phrases) is "
            + "not found fails", "it does nothing then, and the script goes on"})
    static void running_failedCommands() {
        ran("a b", "cut (q);clean (q);restore (q);move (q) behind (a);move (a) behind (q);cut (b);", 5,
                "a");
        ran("a b", "move (q) behind (r);restore (a b);cut (b);", 2, "a");
        ran("a b c", "move (q) behind (b);", 1, "a b c");
        ran("a b c", "move (c) behind (q);", 1, "a b c");
        ran("a b", "if (q) {}", 0, "a b");
    }

    @Says("A run ends when a command would be begun as the 201st one.")
    static void running_200And201Commands() {
        String commands = RUN91 + RUN91 + "cut (q);".repeat(17);
        TranscriptCutter x = Check.loaded(ScriptRunTest.spoken("a b"));
        Check.due("200 commands", Check.run(x, commands + "cut (a);"), 200);
        Check.due("the 200th is done", Check.film(x), "1 | 1");
        Check.due("not stopped", x.wasStopped(), false);
        TranscriptCutter y = Check.loaded(ScriptRunTest.spoken("a b"));
        Check.due("201 commands", Check.run(y, commands + "cut (q);cut (a);"), 200);
        Check.due("the 201st is not done", Check.film(y), "0 1 | 0 1");
        Check.due("stopped", y.wasStopped(), true);
    }

    @Says("A run ends when a command would be begun as the 201st one.")
    static void running_the201stInABlock() {
        String commands = RUN91 + RUN91 + "cut (q);".repeat(16);
        TranscriptCutter x = Check.loaded(ScriptRunTest.spoken("a b"));
        Check.due("an empty block behind the 200th", Check.run(x, commands + "cut (q);repeat 9 {}"), 200);
        Check.due("not stopped", x.wasStopped(), false);
        Check.due("in the block of the 200th", Check.run(x, commands + "cut (q);if (a) {cut (a);}"), 200);
        Check.due("stopped in it", x.wasStopped(), true);
        Check.due("in the second turn", Check.run(x, commands + "repeat 2 {cut (b);}"), 200);
        Check.due("stopped in the second turn", x.wasStopped(), true);
        Check.due("only the first turn is done", Check.film(x), "0 | 0");
        Check.due("its failures", x.failed(), 81 + 81 + 16);
        x.undo();
        Check.due("nothing behind the block", Check.run(x, RUN91 + "repeat 9 {" + RUN91
                + "} cut (a);"), 200);
        Check.due("is done", Check.film(x), "0 1 | 0 1");
    }

    @Says("Returns the number of commands that were begun.")
    static void promise42_noneThirtyAnd200() {
        TranscriptCutter x = Check.loaded(ScriptRunTest.spoken("a b"));
        Check.due("no script", x.runScript(), 0);
        Check.due("an empty script", Check.run(x, ""), 0);
        Check.due("thirty", Check.run(x, "cut (q);".repeat(30)), 30);
        Check.due("200", Check.run(x, "repeat 9 {".repeat(5) + "cut (q);" + "}".repeat(5)), 200);
        Check.due("five blocks deep", Check.run(x, "repeat 1 {".repeat(5) + "cut (q);"
                + "}".repeat(5)), 6);
        Check.due("without a recording", Check.run(new TranscriptCutter(), "if (a) {cut (a);}"), 1);
    }

    @Says("Returns the number of commands of the latest run that failed; 0 if there was no run.")
    static void promise43_noneAndAll() {
        TranscriptCutter x = Check.loaded(ScriptRunTest.spoken("a b"));
        Check.due("no run", x.failed(), 0);
        Check.run(x, "cut (q);".repeat(30));
        Check.due("all", x.failed(), 30);
        Check.script(x, "cut (a);");
        Check.due("the latest run, not the latest script", x.failed(), 30);
        x.runScript();
        Check.due("none", x.failed(), 0);
        Check.run(x, "repeat 9 {repeat 9 {cut (q);}} ".repeat(3));
        Check.due("of a run that was stopped", x.failed(), 81 + 81 + 15);
        x.undo();
        Check.due("undone", x.failed(), 81 + 81 + 15);
    }

    @Says("Returns true if the latest run ended since a command would have been begun as the 201st "
            + "one.")
    static void promise44_latestRun() {
        TranscriptCutter x = Check.loaded(ScriptRunTest.spoken("a b"));
        Check.due("no run", x.wasStopped(), false);
        Check.run(x, RUN91 + RUN91 + "cut (q);".repeat(18));
        Check.due("200 commands", x.wasStopped(), false);
        Check.run(x, RUN91 + RUN91 + "cut (q);".repeat(19));
        Check.due("201 commands", x.wasStopped(), true);
        x.undo();
        Check.script(x, "cut (a);");
        Check.due("undone, and another script", x.wasStopped(), true);
        x.runScript();
        Check.due("a run that was not stopped", x.wasStopped(), false);
    }
}
