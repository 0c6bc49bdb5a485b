/** The edges of the transcript, of promises 28 to 33, and of the trials, promises 34 to 36. */
final class TranscriptEdges {
    private static final int MIN = Integer.MIN_VALUE;
    private static final int MAX = Integer.MAX_VALUE;

    private TranscriptEdges() {
    }

    @Says("It is the row of all kept words, by the shots of their blocks, and in each block by "
            + "their numbers.")
    static void transcript_byShotsThenNumbers() {
        TranscriptCutter x = Twins.talk();
        Check.due("at first", Check.film(x), "0 1 2 3 | 0 1 2");
        x.move(2, 2, -1);
        x.move(1, 1, 2);
        Check.due("moved", Check.film(x), "3 1 2 0 | 2 1 0");
    }

    @Says("A word is heard in the film in those film frames of the shot of its block in which it is "
            + "spoken in the recording.")
    static void transcript_firstAndLastFrame() {
        TranscriptCutter x = Check.loaded("length 5;speaker a;word a x 0 2;word a y 4 5;");
        int[] due = {0, 0, -1, -1, 1, -1};
        for (int frame = 0; frame < due.length; frame++) {
            Check.due("heard in " + frame, x.heard(frame, 0), due[frame]);
        }
    }

    @Says("Returns the number of words of the transcript.")
    static void promise28_noneAndForty() {
        Check.due("none", new TranscriptCutter().transcriptSize(), 0);
        TranscriptCutter x = Check.loaded(TextEdges.words(40));
        Check.due("forty", x.transcriptSize(), 40);
        x.cut(0, 38);
        Check.due("one", x.transcriptSize(), 1);
        x.cutWord(39);
        Check.due("none is left", x.transcriptSize(), 0);
    }

    @Says("Returns the word at this place; NONE if there is none.")
    static void promise29_firstAndLastPlace() {
        int[][] due = {{0, 1}, {1, 0}, {2, -1}, {-1, -1}, {MIN, -1}, {MAX, -1}};
        for (int[] pair : due) {
            Twins.asks("transcriptWord " + pair[0], pair[1], x -> x.transcriptWord(pair[0]));
        }
        Check.due("no word", new TranscriptCutter().transcriptWord(0), -1);
        TranscriptCutter y = Check.loaded(TextEdges.words(40));
        Check.due("the 40th place", y.transcriptWord(39), 39);
        Check.due("behind it", y.transcriptWord(40), -1);
    }

    @Says("Returns the place of the word in the transcript; NONE if it is not kept.")
    static void promise30_keptMutedAndCut() {
        int[] due = {1, 0, -1, -1};
        for (int word = 0; word < 4; word++) {
            int one = word;
            Twins.asks("placeOf " + word, due[word], x -> x.placeOf(one));
        }
        Check.due("the 40th place", Check.loaded(TextEdges.words(40)).placeOf(39), 39);
    }

    @Says("int placeOf(int word) throws IndexOutOfBoundsException")
    static void promise30_noSuchWord() {
        Twins.indexed("placeOf", 4, word -> x -> x.placeOf(word));
    }

    @Says("Returns the first film frame in which the word is heard; NONE if it is not kept.")
    static void promise31_keptMutedAndCut() {
        int[] due = {36, 4, -1, -1};
        for (int word = 0; word < 4; word++) {
            int one = word;
            Twins.asks("startInFilm " + word, due[word], x -> x.startInFilm(one));
        }
        TranscriptCutter y = FilmEdges.widest();
        Check.due("film frame 0", y.startInFilm(0), 0);
        Check.due("the last film frame", y.startInFilm(1), 99998);
    }

    @Says("int startInFilm(int word) throws IndexOutOfBoundsException")
    static void promise31_noSuchWord() {
        Twins.indexed("startInFilm", 4, word -> x -> x.startInFilm(word));
    }

    @Says("Returns the number of places of the transcript at which words stand that have the same "
            + "text as the word.")
    static void promise32_noneOneAndForty() {
        TranscriptCutter x = Check.loaded(TextEdges.words(40));
        Check.due("forty", x.occurrences(39), 40);
        x.cut(0, 38);
        Check.due("one, for a cut word", x.occurrences(0), 1);
        x.cut(0, 0);
        Check.due("none", x.occurrences(39), 0);
        Twins.asks("a muted word", 0, y -> y.occurrences(2));
    }

    @Says("int occurrences(int word) throws IndexOutOfBoundsException")
    static void promise32_noSuchWord() {
        Twins.indexed("occurrences", 4, word -> x -> x.occurrences(word));
    }

    @Says("Returns the number of words that are directly followed in the transcript by a word with "
            + "the same text.")
    static void promise33_noneAndAllButTheLast() {
        Check.due("no word", new TranscriptCutter().stutters(), 0);
        TranscriptCutter x = Check.loaded(TextEdges.words(40));
        Check.due("all but the last", x.stutters(), 39);
        x.cut(1, 39);
        Check.due("one word", x.stutters(), 0);
        Check.due("one between", Check.loaded(ScriptRunTest.spoken("a b a")).stutters(), 0);
        Check.due("the last two", Check.loaded(ScriptRunTest.spoken("b a a")).stutters(), 1);
        Check.due("the first two", Check.loaded(ScriptRunTest.spoken("a a b")).stutters(), 1);
    }

    @Says("Returns the number of words that are directly followed in the transcript by a word with "
            + "the same text.")
    static void promise33_directlyInTheTranscript() {
        TranscriptCutter x = Check.loaded(ScriptRunTest.spoken("a b a"));
        x.cutWord(1);
        Check.due("the one between is cut", x.stutters(), 1);
        x.restore(1, 1);
        x.move(1, 1, -1);
        Check.due("the one between is moved", x.stutters(), 1);
    }

    // ---- trials

    @Says("Returns the number of film frames that there would be if the words from from to to "
            + "were cut.")
    static void promise34_partOfABlockAndAll() {
        int[][] due = {{0, 0, 78}, {1, 1, 100}, {2, 2, 100}, {1, 2, 81}, {0, 1, 78}, {2, 3, 41},
            {3, 3, 41}, {0, 2, 59}, {1, 3, 22}, {0, 3, 0}};
        for (int[] row : due) {
            TranscriptCutter x = Twins.talk();
            Check.due("lengthIfCut " + row[0] + " " + row[1], x.lengthIfCut(row[0], row[1]), row[2]);
            Check.due("cut " + row[0] + " " + row[1], x.cut(row[0], row[1]), 100 - row[2]);
        }
        TranscriptCutter forty = Check.loaded(TextEdges.words(40));
        Check.due("forty places", forty.lengthIfCut(0, 39), 0);
        Check.due("all but the 40th", forty.lengthIfCut(0, 38), 1000 - 77);
        Check.due("the 40th", forty.lengthIfCut(39, 39), 77);
        Twins.asks("the block's other word is muted", 24, x -> x.lengthIfCut(0, 0));
        Twins.asks("the last place", 26, x -> x.lengthIfCut(1, 1));
        Twins.asks("all", 0, x -> x.lengthIfCut(0, 1));
    }

    @Says("if there are no such places")
    static void promise34_noSuchPlaces() {
        int[][] wrong = {{-1, 0}, {0, 2}, {2, 2}, {1, 0}, {-1, -1}, {0, -1}, {MIN, MAX}, {MAX, MIN},
            {MIN, MIN}, {MAX, MAX}, {0, MAX}, {MIN, 0}};
        for (int[] row : wrong) {
            Twins.notAllowed("lengthIfCut " + row[0] + " " + row[1],
                    x -> x.lengthIfCut(row[0], row[1]));
        }
        Twins.refused("IllegalArgumentException", "lengthIfCut of nothing", TranscriptCutter::new,
                x -> x.lengthIfCut(0, 0));
    }

    @Says("Returns the number of film frames that there would be if the word were restored "
            + "(as it is if the word is kept).")
    static void promise35_keptMutedAndCut() {
        int[] due = {50, 50, 50, 50 + 59};
        for (int word = 0; word < 4; word++) {
            int one = word;
            Twins.asks("lengthIfRestored " + word, due[word], x -> x.lengthIfRestored(one));
        }
    }

    @Says("if the word were restored")
    static void promise35_headAndTailWouldBe0() {
        TranscriptCutter x = Twins.talk();
        x.setHandles(1, 2, 19);
        x.cut(1, 2);
        Check.due("a block that left with handles", x.lengthIfRestored(1), 100);
        x.setHandles(1, 2, 19);
        Check.due("handles set since", x.lengthIfRestored(2), 100);
        x.restore(2, 2);
        Check.due("restored", x.filmLength(), 100);
        x.cut(0, 2);
        Check.due("into an empty film", x.lengthIfRestored(0), 22);
    }

    @Says("int lengthIfRestored(int word) throws IndexOutOfBoundsException")
    static void promise35_noSuchWord() {
        Twins.indexed("lengthIfRestored", 4, word -> x -> x.lengthIfRestored(word));
    }

    @Says("Returns the least number of shots that would have to be left out so that the film has at "
            + "most this length")
    static void promise36_atMostThisLength() {
        // The shots have 22, 19 and 59 frames.
        TranscriptCutter x = Twins.talk();
        int[][] due = {{MAX, 0}, {101, 0}, {100, 0}, {99, 1}, {41, 1}, {40, 2}, {19, 2}, {18, 3},
            {1, 3}, {0, 3}};
        for (int[] pair : due) {
            Check.due("shotsToCut " + pair[0], x.shotsToCut(pair[0]), pair[1]);
        }
        Check.due("an empty film", new TranscriptCutter().shotsToCut(0), 0);
        for (int shot = 0; shot < 3; shot++) {
            TranscriptCutter moved = Check.loaded("handle 0;" + Twins.TALK.replace("handle 7;", ""));
            moved.move(2, 2, shot - 1);
            Check.due("the greatest is shot " + shot, moved.blockOf(shot), 2);
            Check.due("only it is left out", moved.shotsToCut(41), 1);
            Check.due("it and the next smaller one", moved.shotsToCut(19), 2);
        }
        TranscriptCutter y = Check.loaded(TextEdges.words(40) + "length 79;");
        Check.due("forty shots", y.shotsToCut(0), 40);
    }

    @Says("(each other shot with its present frames)")
    static void promise36_presentFrames() {
        int[][] due = {{50, 0}, {49, 1}, {24, 1}, {23, 2}, {0, 2}};
        for (int[] pair : due) {
            Twins.asks("shotsToCut " + pair[0], pair[1], x -> x.shotsToCut(pair[0]));
        }
    }

    @Says("NONE if the length is negative")
    static void promise36_negativeLength() {
        for (int length : new int[] {-1, -2, MIN}) {
            Twins.asks("shotsToCut " + length, -1, x -> x.shotsToCut(length));
        }
        Check.due("of an empty film", new TranscriptCutter().shotsToCut(-1), -1);
    }
}
