/** Promises 45 and 46: undo. */
final class UndoTest {
    private UndoTest() {
    }

    static void run() {
        eachAction();
        whatStays();
        twelveAtMost();
        betweenActions();
    }

    private static void eachAction() {
        TranscriptCutter x = Check.loaded(RecordingTest.TALK);
        Check.script(x, "cut (we);move (ok) behind (end);clean (so);restore (so);");
        String[] before = new String[8];
        int n = 0;
        before[n++] = Check.film(x);
        x.cut(1, 2);
        before[n++] = Check.film(x);
        x.cutWord(6);
        before[n++] = Check.film(x);
        x.move(0, 1, 2);
        before[n++] = Check.film(x);
        x.setHandles(0, 20, 30);
        before[n++] = Check.film(x);
        x.restore(0, 8);
        before[n++] = Check.film(x);
        x.runScript();
        for (int k = n - 1; k >= 0; k--) {
            Check.due("undo to " + k, x.undo(), k);
            Check.due("undo to " + k + ": film", Check.film(x), before[k]);
            Check.due("undo to " + k + ": depth", x.undoDepth(), k);
        }
        Check.due("all is as at first", Check.state(x),
                "0 1 2 3 4 5 6 7 8 | 0 1 2 3 0/0 0/0 0/0 0/0 undo 0 length 200");
        Check.due("no more", x.undo(), -1);
        Check.due("no more: nothing changes", x.undoDepth(), 0);

        x.setHandles(1, 2, 3);
        x.setHandles(1, 4, 5);
        x.move(1, 1, -1);
        x.undo();
        Check.due("undo gives the handles back", x.blockField(1, 6) * 10 + x.blockField(1, 7), 45);
        x.undo();
        Check.due("undo gives the handles back again", x.blockField(1, 6) * 10 + x.blockField(1, 7), 23);
        Check.due("undo gives the frames back", x.filmLength(), 202);
        Check.due("undo gives the clips back", x.clips(), 2);
        x.undo();
        x.cut(0, 1);
        x.restore(0, 0);
        x.undo();
        Check.due("undo gives the silence back", x.silence(), 172 - 29);
        Check.due("undo gives the states back", x.wordField(0, 4), TranscriptCutter.CUT);
        Check.due("undo gives the places back", x.placeOf(2), 0);
    }

    private static void whatStays() {
        TranscriptCutter x = Check.loaded(RecordingTest.TALK);
        Check.run(x, "cut (so);cut (no);");
        x.formatTranscript();
        Check.script(x, "cut (yes);");
        x.undo();
        Check.due("what is told of the run stays", x.failed(), 1);
        Check.due("the formatted text stays", Check.formatted(x), "so / yes we um we / ok / bye end");
        x.runScript();
        Check.due("the script stays", Check.film(x), "0 1 3 4 5 6 7 8 | 0 1 2 3");
    }

    private static void twelveAtMost() {
        TranscriptCutter x = Check.loaded(RecordingTest.TALK);
        for (int k = 1; k <= 15; k++) {
            x.setHandles(3, k, 0);
            Check.due("depth after " + k, x.undoDepth(), Math.min(k, 12));
        }
        for (int k = 11; k >= 0; k--) {
            Check.due("undo left", x.undo(), k);
            Check.due("undone head", x.blockField(3, 6), k + 3);
        }
        Check.due("undo of the 13th", x.undo(), -1);
        Check.due("its head stays", x.blockField(3, 6), 3);
    }

    private static void betweenActions() {
        TranscriptCutter x = Check.loaded(RecordingTest.TALK);
        Check.thrownBy(() -> x.cutWord(99));
        Check.thrownBy(() -> x.move(0, 0, 0));
        Check.due("a call that throws is not recorded", x.undoDepth(), 0);
        x.setHandles(3, 1, 0);
        x.setHandles(3, 2, 0);
        x.undo();
        Check.due("head after undo", x.blockField(3, 6), 1);
        x.setHandles(3, 5, 0);
        Check.due("depth then", x.undoDepth(), 2);
        x.undo();
        Check.due("head before the new action", x.blockField(3, 6), 1);
        x.undo();
        Check.due("head at first", x.blockField(3, 6), 0);
        x.runScript();
        x.restore(0, 0);
        x.move(0, 3, -1);
        Check.due("actions that change nothing or little", x.undoDepth(), 3);
        Check.fill(x, "speaker a;");
        x.load();
        Check.due("load forgets them", x.undoDepth(), 0);
    }
}
