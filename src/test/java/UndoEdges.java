/** The edges of undo, promises 45 and 46. */
final class UndoEdges {
    private UndoEdges() {
    }

    @Says("The methods cut, cutWord, restore, move, setHandles and runScript are undoable actions.")
    static void undo_eachActionIsRecordedOnce() {
        TranscriptCutter x = Twins.talk();
        x.cut(0, 0);
        Check.due("cut", x.undoDepth(), 1);
        x.cutWord(1);
        Check.due("cutWord", x.undoDepth(), 2);
        x.restore(0, 3);
        Check.due("restore", x.undoDepth(), 3);
        x.move(0, 0, 2);
        Check.due("move", x.undoDepth(), 4);
        x.setHandles(0, 1, 2);
        Check.due("setHandles", x.undoDepth(), 5);
        Check.run(x, "cut (hi);cut (so);cut (yes);");
        Check.due("runScript", x.undoDepth(), 6);
        x.formatTranscript();
        x.lengthIfCut(0, 0);
        x.lengthIfRestored(0);
        Check.script(x, "cut (hi);");
        Check.due("nothing else", x.undoDepth(), 6);
    }

    @Says("A successful call of one of them is recorded even if it changes nothing.")
    static void undo_recordedEvenIfNothingChanges() {
        TranscriptCutter x = Twins.talk();
        String before = Check.film(x);
        x.restore(0, 3);
        Check.due("restore of kept words", x.undoDepth(), 1);
        x.setHandles(1, 0, 0);
        Check.due("setHandles to what they are", x.undoDepth(), 2);
        x.runScript();
        Check.due("runScript without a script", x.undoDepth(), 3);
        Check.run(x, "cut (q);");
        Check.due("runScript with failures alone", x.undoDepth(), 4);
        x.move(0, 2, -1);
        x.move(0, 2, -1);
        Check.due("move to where they are", x.undoDepth(), 6);
        for (int left = 5; left >= 0; left--) {
            Check.due("undo", x.undo(), left);
            Check.due("film", Check.film(x), before);
        }
        TranscriptCutter empty = new TranscriptCutter();
        empty.runScript();
        Check.due("runScript of an empty object", empty.undo(), 0);
    }

    @Says("The last 12 recorded actions can be undone.")
    static void undo_twelveAndThirteenActions() {
        for (int actions : new int[] {11, 12, 13, 24, 25, 40}) {
            TranscriptCutter x = Twins.talk();
            for (int k = 1; k <= actions; k++) {
                x.setHandles(2, k, 0);
            }
            int most = Math.min(actions, 12);
            Check.due("depth after " + actions, x.undoDepth(), most);
            for (int left = most - 1; left >= 0; left--) {
                Check.due("undo of " + actions, x.undo(), left);
                Check.due("head then", x.blockField(2, 6), actions - most + left);
            }
            Check.due("no more of " + actions, x.undo(), -1);
            Check.due("head at last", x.blockField(2, 6), actions - most);
        }
    }

    @Says("The last 12 recorded actions can be undone.")
    static void undo_actionsBetweenUndos() {
        TranscriptCutter x = Twins.talk();
        for (int k = 1; k <= 12; k++) {
            x.setHandles(2, k, 0);
        }
        x.undo();
        x.undo();
        x.setHandles(2, 100, 0);
        x.setHandles(2, 101, 0);
        x.setHandles(2, 102, 0);
        Check.due("depth", x.undoDepth(), 12);
        int[] due = {101, 100, 10, 9, 8, 7, 6, 5, 4, 3, 2, 1};
        for (int k = 0; k < 12; k++) {
            Check.due("undo", x.undo(), 11 - k);
            Check.due("head", x.blockField(2, 6), due[k]);
        }
        Check.due("no more", x.undo(), -1);
    }

    @Says("Undoing an action restores the kept words, the film and all heads and tails as they were "
            + "before the action")
    static void undo_allOfIt() {
        Twins.Act[] actions = {x -> x.cut(0, 1), x -> x.cutWord(0), x -> x.restore(0, 3),
            x -> x.move(1, 1, -1), x -> x.setHandles(0, 999, 999), x -> x.setHandles(2, 999, 999),
            TranscriptCutter::runScript};
        for (int k = 0; k < actions.length; k++) {
            TranscriptCutter x = Twins.busy();
            String before = Check.state(x);
            actions[k].on(x);
            Check.due("undo of action " + k, x.undo(), 5);
            Check.due("state before action " + k, Check.state(x), before);
        }
    }

    @Says("the scripts, and what is told of the latest run, stay")
    static void undo_whatStays() {
        TranscriptCutter x = Twins.talk();
        Check.run(x, "cut (q);" + "repeat 9 {".repeat(4) + "cut (hi);" + "}".repeat(4));
        Check.due("failed before", x.failed() > 1, true);
        int failed = x.failed();
        Check.script(x, "cut (so);");
        Check.due("undo", x.undo(), 0);
        Check.due("failed", x.failed(), failed);
        Check.due("stopped", x.wasStopped(), true);
        Check.due("the later script", x.runScript(), 1);
        Check.due("what it cuts", Check.film(x), "0 2 3 | 0 1 2");
    }

    @Says("Returns the number of actions that can still be undone; NONE, and nothing changes, "
            + "if there was none.")
    static void promise45_oneAndNone() {
        TranscriptCutter x = Twins.talk();
        TranscriptCutter other = Twins.talk();
        Check.due("nothing to undo", x.undo(), -1);
        Twins.same("undo of nothing", x, other);
        TranscriptCutter y = Twins.talk();
        y.cutWord(0);
        Check.due("one", y.undo(), 0);
        Check.due("none", y.undo(), -1);
        Check.due("none again", y.undo(), -1);
        Check.due("state", Check.state(y), Check.state(Twins.talk()));
        Check.due("a new object", new TranscriptCutter().undo(), -1);
    }

    @Says("Returns the number of actions that can still be undone; NONE, and nothing changes, "
            + "if there was none.")
    static void promise45_twelve() {
        TranscriptCutter x = Twins.talk();
        for (int k = 0; k < 12; k++) {
            x.runScript();
        }
        Check.due("of twelve", x.undo(), 11);
        x.runScript();
        x.runScript();
        Check.due("of twelve again", x.undo(), 11);
    }

    @Says("Returns the number of actions that can be undone.")
    static void promise46_noneAndTwelve() {
        TranscriptCutter x = Twins.talk();
        Check.due("none", x.undoDepth(), 0);
        for (int k = 1; k <= 14; k++) {
            x.runScript();
            Check.due("after " + k, x.undoDepth(), Math.min(k, 12));
        }
        Check.fill(x, "#");
        Check.notAllowed("a wrong text", x::load);
        Check.due("a wrong text keeps them", x.undoDepth(), 12);
        x.load();
        Check.due("a right one does not", x.undoDepth(), 0);
        Check.due("undo then", x.undo(), -1);
    }
}
