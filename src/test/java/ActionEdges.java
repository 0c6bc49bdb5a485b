import java.util.ArrayList;
import java.util.List;

/** The edges of cutting, restoring and moving, of the exceptions, and of promises 37 to 41. */
final class ActionEdges {
    private static final int MIN = Integer.MIN_VALUE;
    private static final int MAX = Integer.MAX_VALUE;

    private ActionEdges() {
    }

    // ---- cutting words

    @Says("They are not kept any more. A block that has no kept word then leaves the film.")
    static void cutting_lastKeptWord() {
        TranscriptCutter x = Twins.talk();
        x.cut(1, 1);
        Check.due("one kept word is left", Check.film(x), "0 2 3 | 0 1 2");
        x.cut(1, 1);
        Check.due("none is left", Check.film(x), "0 3 | 0 2");
        x.cut(0, 0);
        Check.due("the first block leaves", Check.film(x), "3 | 2");
        x.cut(0, 0);
        Check.due("the last block leaves", Check.film(x), "|");
    }

    // ---- restoring words

    @Says("A block that was not in the film and has a kept word then comes back: directly behind "
            + "the shot of the block with the greatest number that is less than its own, of those "
            + "in the film; to the beginning if there is none.")
    static void restoring_behindTheNextLowerBlock() {
        for (int block = 0; block < 5; block++) {
            TranscriptCutter x = Check.loaded(ScriptRunTest.spoken("a b c d e"));
            x.cutWord(block);
            x.restore(block, block);
            Check.due("block " + block + " to its old place", Check.film(x), "0 1 2 3 4 | 0 1 2 3 4");
        }
        restored("3 0 4 1", 2, "3 0 4 1 2");
        restored("1 3 0 4", 2, "1 2 3 0 4");
        restored("4 3 1 0", 2, "4 3 1 2 0");
        restored("0 1 2 3", 4, "0 1 2 3 4");
        restored("3 0 1 2", 4, "3 4 0 1 2");
    }

    @Says("to the beginning if there is none")
    static void restoring_toTheBeginning() {
        restored("1 2 3 4", 0, "0 1 2 3 4");
        restored("4 3 2 1", 0, "0 4 3 2 1");
        restored("4 3", 1, "1 4 3");
        restored("", 3, "3");
        restored("", 0, "0");
    }

    /** The film has these blocks, of five with a word each; then the word of a block is restored. */
    private static void restored(String film, int block, String due) {
        TranscriptCutter x = Check.loaded(ScriptRunTest.spoken("a b c d e"));
        x.cut(0, 4);
        String[] blocks = film.isEmpty() ? new String[0] : film.split(" ");
        for (int k = 0; k < blocks.length; k++) {
            int word = Integer.parseInt(blocks[k]);
            x.restore(word, word);
            int shot = x.blockField(word, 8);
            if (shot != k) {
                x.move(shot, shot, k);
            }
        }
        x.restore(block, block);
        Check.due("block " + block + " into " + film, Check.film(x), due + " | " + due);
    }

    @Says("Its head and tail become 0.")
    static void restoring_headAndTail() {
        TranscriptCutter x = Twins.talk();
        x.setHandles(1, 2, 3);
        x.cutWord(1);
        x.restore(1, 1);
        Check.due("it did not leave: head", x.blockField(1, 6), 2);
        Check.due("it did not leave: tail", x.blockField(1, 7), 3);
        x.cut(1, 2);
        x.restore(2, 2);
        Check.due("it came back: head", x.blockField(1, 6), 0);
        Check.due("it came back: tail", x.blockField(1, 7), 0);
        x.cutWord(2);
        x.setHandles(1, 999, 999);
        x.restore(1, 2);
        Check.due("handles set meanwhile: head", x.blockField(1, 6), 0);
        Check.due("handles set meanwhile: tail", x.blockField(1, 7), 0);
    }

    @Says({"They are kept again.",
        "Several words are restored one by one in the order of their numbers."})
    static void restoring_oneByOne() {
        TranscriptCutter x = Check.loaded(ScriptRunTest.spoken("a b c d e"));
        x.move(3, 3, -1);
        x.cutWord(1);
        x.cutWord(2);
        x.cutWord(4);
        Check.due("before", Check.film(x), "3 0 | 3 0");
        x.restore(1, 4);
        Check.due("each behind the one before it", Check.film(x), "3 4 0 1 2 | 3 4 0 1 2");
    }

    // ---- moving shots

    @Says("is taken out of the film and put in again directly behind another shot "
            + "(or at the beginning)")
    static void moving_firstAndLastPlace() {
        for (int first = 0; first < 5; first++) {
            for (int last = first; last < 5; last++) {
                for (int behind = -1; behind < 5; behind++) {
                    if (behind < first || behind > last) {
                        moved(first, last, behind);
                    }
                }
            }
        }
    }

    private static void moved(int first, int last, int behind) {
        TranscriptCutter x = Check.loaded(ScriptRunTest.spoken("a b c d e"));
        List<Integer> film = new ArrayList<>(List.of(0, 1, 2, 3, 4));
        List<Integer> row = new ArrayList<>(film.subList(first, last + 1));
        film.removeAll(row);
        int at = behind < 0 ? 0 : film.indexOf(behind) + 1;
        film.addAll(at, row);
        String what = "move " + first + " " + last + " " + behind;
        Check.due(what, x.move(first, last, behind), at);
        for (int shot = 0; shot < 5; shot++) {
            Check.due(what + ": shot " + shot, x.blockOf(shot), film.get(shot));
        }
    }

    @Says("The head of the first one and the tail of the last one of them become the handle length.")
    static void moving_handles() {
        TranscriptCutter one = Twins.talk();
        one.move(1, 1, -1);
        Check.due("one shot", Check.state(one), "1 2 0 3 | 1 0 2 0/0 7/7 0/0 undo 1 length 109");
        TranscriptCutter all = Twins.talk();
        all.move(0, 2, -1);
        Check.due("all shots", Check.state(all), "0 1 2 3 | 0 1 2 7/0 0/0 0/7 undo 1 length 100");
        TranscriptCutter inner = Twins.talk();
        inner.setHandles(0, 1, 2);
        inner.setHandles(1, 3, 4);
        inner.setHandles(2, 5, 6);
        inner.move(0, 1, 2);
        Check.due("the inner ones stay", Check.state(inner),
                "3 0 1 2 | 2 0 1 7/2 3/7 5/6 undo 4 length 116");
    }

    @Says("become the handle length")
    static void moving_smallestAndGreatestHandle() {
        TranscriptCutter none = Check.loaded("handle 0;" + Twins.TALK.replace("handle 7;", ""));
        none.setHandles(1, 3, 4);
        none.move(1, 1, 2);
        Check.due("0", Check.state(none), "0 3 1 2 | 0 2 1 0/0 0/0 0/0 undo 2 length 100");
        TranscriptCutter most = Check.loaded("handle 999;" + Twins.TALK.replace("handle 7;", ""));
        most.move(1, 1, 2);
        Check.due("999", Check.state(most), "0 3 1 2 | 0 2 1 0/0 999/999 0/0 undo 1 length 121");
    }

    // ---- exceptions

    @Says("When several exceptions apply, the one that is listed first in the method's throws clause "
            + "is thrown.")
    static void exceptions_firstListed() {
        Twins.noSuch("restore: no word, and less", x -> x.restore(4, 0));
        Twins.noSuch("restore: no other, and less", x -> x.restore(0, -1));
        Twins.noSuch("restore: neither, and less", x -> x.restore(MAX, MIN));
        Twins.noSuch("move: no first, and last is less", x -> x.move(2, 1, -1));
        Twins.noSuch("move: no last, and less", x -> x.move(0, -1, 1));
        Twins.noSuch("move: no first, and behind is none", x -> x.move(-1, 0, 9));
        Twins.noSuch("move: no last, and behind is moved", x -> x.move(0, 2, 1));
        Twins.noSuch("setHandles: no block, and no head", x -> x.setHandles(3, 1000, 0));
        Twins.noSuch("setHandles: no block, and no tail", x -> x.setHandles(-1, 0, -1));
        Twins.noSuch("cutWord: no word, so none that is kept", x -> x.cutWord(4));
    }

    @Says("IndexOutOfBoundsException is thrown if a parameter named speaker, word, other or block is "
            + "not the number of an existing one, or if a parameter named shot, first or last is not "
            + "0 to the number of shots - 1.")
    static void exceptions_nothingExists() {
        Twins.Act[] calls = {x -> x.wordField(0, 0), x -> x.isSameText(0, 0) ? 1 : 0,
            x -> x.overlap(0, 0) ? 1 : 0, x -> x.blockField(0, 0), x -> x.isSnapped(0) ? 1 : 0,
            x -> x.blockOf(0), x -> x.shotField(0, 0), x -> x.heard(0, 0), x -> x.speakingTime(0),
            x -> x.placeOf(0), x -> x.startInFilm(0), x -> x.occurrences(0),
            x -> x.lengthIfRestored(0), x -> x.cutWord(0), x -> x.restore(0, 0),
            x -> x.move(0, 0, -1), x -> x.setHandles(0, 0, 0), x -> x.formatShot(0)};
        for (int k = 0; k < calls.length; k++) {
            Twins.refused("IndexOutOfBoundsException", "call " + k, TranscriptCutter::new, calls[k]);
            Twins.refused("IndexOutOfBoundsException", "call " + k + " after an empty text",
                    () -> Check.loaded("length 7;"), calls[k]);
        }
    }

    @Says("or if a parameter named shot, first or last is not 0 to the number of shots - 1")
    static void exceptions_noShotIsLeft() {
        Twins.Act[] calls = {x -> x.blockOf(0), x -> x.shotField(0, 0), x -> x.move(0, 0, -1),
            x -> x.formatShot(0)};
        for (int k = 0; k < calls.length; k++) {
            Twins.refused("IndexOutOfBoundsException", "call " + k, ActionEdges::allCut, calls[k]);
        }
    }

    private static TranscriptCutter allCut() {
        TranscriptCutter x = Twins.talk();
        x.cut(0, 3);
        return x;
    }

    @Says("A call that throws changes nothing, except that load and loadScript empty the buffer and "
            + "set the error.")
    static void exceptions_nothingIsRecorded() {
        TranscriptCutter x = Twins.talk();
        Check.noSuch("cutWord", () -> x.cutWord(4));
        Check.notAllowed("cut", () -> x.cut(0, 4));
        Check.notAllowed("restore", () -> x.restore(1, 0));
        Check.notAllowed("move", () -> x.move(0, 0, 0));
        Check.notAllowed("setHandles", () -> x.setHandles(0, -1, 0));
        Check.due("actions that can be undone", x.undoDepth(), 0);
        Check.due("state", Check.state(x), Check.state(Twins.talk()));
    }

    // ---- promises 37 to 41

    @Says("Returns the number of film frames that are fewer then.")
    static void promise37_noneAndAll() {
        TranscriptCutter x = Twins.talk();
        Check.due("part of a block", x.cut(2, 2), 0);
        Check.due("a block", x.cut(1, 1), 19);
        Check.due("all", x.cut(0, 1), 81);
        Check.due("film", Check.film(x), "|");
        TranscriptCutter y = Check.loaded(TextEdges.words(40));
        Check.due("forty places", y.cut(0, 39), 1000);
        TranscriptCutter z = Twins.busy();
        Check.due("with handles", z.cut(0, 0), 26);
    }

    @Says("if there are no such places")
    static void promise37_noSuchPlaces() {
        int[][] wrong = {{-1, 0}, {0, 2}, {2, 2}, {1, 0}, {-1, -1}, {0, -1}, {MIN, MAX}, {MAX, MIN},
            {MIN, MIN}, {MAX, MAX}, {0, MAX}, {MIN, 0}};
        for (int[] row : wrong) {
            Twins.notAllowed("cut " + row[0] + " " + row[1], x -> x.cut(row[0], row[1]));
        }
        Twins.refused("IllegalArgumentException", "cut of nothing", TranscriptCutter::new,
                x -> x.cut(0, 0));
    }

    @Says("Returns its state afterwards.")
    static void promise38_mutedAndCut() {
        TranscriptCutter x = Twins.talk();
        Check.due("another word is kept", x.cutWord(2), TranscriptCutter.MUTED);
        Check.due("no other word is kept", x.cutWord(1), TranscriptCutter.CUT);
        Check.due("the only word", x.cutWord(0), TranscriptCutter.CUT);
        Check.due("the last word", x.cutWord(3), TranscriptCutter.CUT);
        Check.due("film", Check.film(x), "|");
    }

    @Says("if it is not kept")
    static void promise38_notKept() {
        Twins.notNow("cutWord of a muted word", x -> x.cutWord(2));
        Twins.notNow("cutWord of a cut word", x -> x.cutWord(3));
    }

    @Says("int cutWord(int word) throws IndexOutOfBoundsException, IllegalStateException")
    static void promise38_noSuchWord() {
        for (int word : new int[] {-1, 4, MIN, MAX}) {
            Twins.noSuch("cutWord " + word, x -> x.cutWord(word));
        }
        Twins.refused("IndexOutOfBoundsException", "cutWord 0 of nothing", TranscriptCutter::new,
                x -> x.cutWord(0));
    }

    @Says("Returns the number of words that were not kept before.")
    static void promise39_noneAndForty() {
        TranscriptCutter x = Check.loaded(TextEdges.words(40));
        Check.due("none", x.restore(0, 39), 0);
        x.cut(0, 39);
        Check.due("one", x.restore(39, 39), 1);
        Check.due("all but one", x.restore(0, 39), 39);
        x.cut(0, 39);
        Check.due("forty", x.restore(0, 39), 40);
        Check.due("muted and cut ones", Twins.busy().restore(0, 3), 2);
    }

    @Says("Restores the words from one to another one, by their numbers.")
    static void promise39_firstAndLastWord() {
        TranscriptCutter x = Twins.talk();
        x.cut(0, 3);
        Check.due("one word", x.restore(1, 1), 1);
        Check.due("only this one", Check.film(x), "1 | 1");
        Check.due("up to the last one", x.restore(2, 3), 2);
        Check.due("only these", Check.film(x), "1 2 3 | 1 2");
    }

    @Says("if other is less than word")
    static void promise39_otherIsLess() {
        Twins.notAllowed("restore 1 0", x -> x.restore(1, 0));
        Twins.notAllowed("restore 3 2", x -> x.restore(3, 2));
        Twins.notAllowed("restore 3 0", x -> x.restore(3, 0));
    }

    @Says("int restore(int word, int other) throws IndexOutOfBoundsException, "
            + "IllegalArgumentException")
    static void promise39_noSuchWord() {
        Twins.indexed("restore word", 4, word -> x -> x.restore(word, Math.max(word, 3)));
        Twins.indexed("restore other", 4, word -> x -> x.restore(0, word));
    }

    @Says("Returns the number of the first one of them afterwards.")
    static void promise40_leastAndGreatestNumber() {
        Check.due("to the beginning", Twins.talk().move(2, 2, -1), 0);
        Check.due("to the end", Twins.talk().move(0, 0, 2), 2);
        Check.due("two to the end", Twins.talk().move(0, 1, 2), 1);
        Check.due("from where it is", Twins.talk().move(1, 1, 0), 1);
        Check.due("all", Twins.talk().move(0, 2, -1), 0);
        Check.due("the last of forty", Check.loaded(TextEdges.words(40)).move(0, 0, 39), 39);
    }

    @Says("if last is less than first, or if behind is neither -1 nor the number of a shot that is "
            + "not moved")
    static void promise40_lastIsLess() {
        Twins.notAllowed("move 1 0 -1", x -> x.move(1, 0, -1));
        Twins.notAllowed("move 1 0 1", x -> x.move(1, 0, 1));
        Twins.refused("IllegalArgumentException", "move 2 0 1", Twins::talk, x -> x.move(2, 0, 1));
    }

    @Says("if last is less than first, or if behind is neither -1 nor the number of a shot that is "
            + "not moved")
    static void promise40_behind() {
        for (int behind : new int[] {-2, 2, MIN, MAX}) {
            Twins.notAllowed("move 0 0 " + behind, x -> x.move(0, 0, behind));
        }
        int[][] moved = {{0, 0, 0}, {1, 1, 1}, {0, 1, 0}, {0, 1, 1}, {1, 2, 1}, {1, 2, 2}, {0, 2, 1}};
        for (int[] row : moved) {
            Twins.refused("IllegalArgumentException", "move " + row[0] + " " + row[1] + " " + row[2],
                    Twins::talk, x -> x.move(row[0], row[1], row[2]));
        }
    }

    @Says("int move(int first, int last, int behind) throws IndexOutOfBoundsException, "
            + "IllegalArgumentException")
    static void promise40_noSuchShot() {
        Twins.indexed("move first", 2, first -> x -> x.move(first, 1, -1));
        Twins.indexed("move last", 2, last -> x -> x.move(0, last, -1));
    }

    @Says("Returns the number of frames that its shot plays then; 0 if it is not in the film.")
    static void promise41_inTheFilmAndNot() {
        Check.due("no handles", Twins.talk().setHandles(1, 0, 0), 19);
        Check.due("handles", Twins.talk().setHandles(1, 1, 2), 22);
        Check.due("all that there is", Twins.talk().setHandles(1, 999, 999), 40);
        TranscriptCutter x = Twins.busy();
        Check.due("not in the film", x.setHandles(2, 8, 9), 0);
        Check.due("its head", x.blockField(2, 6), 8);
        Check.due("its tail", x.blockField(2, 7), 9);
        Check.due("the film stays", x.filmLength(), 50);
    }

    @Says("Throws IllegalArgumentException if head or tail is out of range")
    static void promise41_headAndTailOutOfRange() {
        TranscriptCutter x = Twins.talk();
        x.setHandles(2, 999, 0);
        Check.due("the greatest head", x.blockField(2, 6), 999);
        x.setHandles(2, 0, 999);
        Check.due("the smallest head", x.blockField(2, 6), 0);
        Check.due("the greatest tail", x.blockField(2, 7), 999);
        for (int wrong : new int[] {-1, 1000, MIN, MAX}) {
            Twins.notAllowed("head " + wrong, y -> y.setHandles(0, wrong, 0));
            Twins.notAllowed("tail " + wrong, y -> y.setHandles(0, 999, wrong));
            Twins.notAllowed("both " + wrong, y -> y.setHandles(2, wrong, wrong));
        }
    }

    @Says("int setHandles(int block, int head, int tail) throws IndexOutOfBoundsException, "
            + "IllegalArgumentException")
    static void promise41_noSuchBlock() {
        Twins.indexed("setHandles", 3, block -> x -> x.setHandles(block, 0, 999));
    }
}
