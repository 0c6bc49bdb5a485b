/** The edges of promises 47 to 49: formatted text. */
final class FormatEdges {
    private static final int MIN = Integer.MIN_VALUE;
    private static final int MAX = Integer.MAX_VALUE;

    private FormatEdges() {
    }

    private static void transcript(TranscriptCutter x, String due) {
        Check.due("length of '" + due + "'", x.formatTranscript(), due.length());
        Check.due("transcript", Check.formatted(x), due);
    }

    private static void shot(TranscriptCutter x, int shot, String due) {
        Check.due("length of '" + due + "'", x.formatShot(shot), due.length());
        Check.due("shot " + shot, Check.formatted(x), due);
    }

    @Says({"The text has the texts of its words, with a space between two words of one shot, and "
            + "with \" / \" between two words of different shots.", "Returns the length of the text."})
    static void promise47_noneOneAndSomeWords() {
        transcript(new TranscriptCutter(), "");
        TranscriptCutter x = Twins.talk();
        transcript(x, "hi / so yes / bye");
        x.cutWord(2);
        transcript(x, "hi / so / bye");
        x.cutWord(0);
        transcript(x, "so / bye");
        x.cutWord(3);
        transcript(x, "so");
        x.cutWord(1);
        transcript(x, "");
    }

    @Says("The text has the texts of its words")
    static void promise47_longest() {
        TranscriptCutter x = Check.loaded(TextEdges.words(40));
        transcript(x, "x / ".repeat(39) + "x");
        StringBuilder text = new StringBuilder("speaker a;");
        for (int k = 0; k < 40; k++) {
            text.append("word a uvwxyz ").append(2 * k).append(' ').append(2 * k + 1).append(';');
        }
        transcript(Check.loaded(text.toString()), "uvwxyz / ".repeat(39) + "uvwxyz");
    }

    @Says("The text replaces the previous formatted text.")
    static void promise47_replacesALongerOne() {
        TranscriptCutter x = Twins.talk();
        x.formatShot(1);
        x.cut(1, 3);
        transcript(x, "hi");
        Check.due("nothing of the longer one is left", x.formattedByte(2), -1);
        x.cut(0, 0);
        transcript(x, "");
        Check.due("nothing at all", x.formattedByte(0), -1);
    }

    @Says("The text is \"s\" and its number, \" \", the first frame of the recording that it plays, "
            + "\"-\", the frame behind the last one, and then for each word of its block \" \" and the "
            + "name of its speaker, \":\", and its text, in \"[\" and \"]\" if it is MUTED.")
    static void promise48_keptAndMutedWords() {
        TranscriptCutter x = Twins.busy();
        shot(x, 0, "s0 20-46 a:so b:[yes]");
        shot(x, 1, "s1 0-24 a:hi");
        x.restore(2, 2);
        shot(x, 0, "s0 20-46 a:so b:yes");
        x.cutWord(1);
        shot(x, 0, "s0 20-46 a:[so] b:yes");
    }

    @Says("Numbers are decimal.")
    static void promise48_numbersOfOneToFiveDigits() {
        TranscriptCutter x = FilmEdges.widest();
        shot(x, 0, "s0 0-49999 a:x");
        shot(x, 1, "s1 49999-99999 a:y");
        TranscriptCutter y = Check.loaded(TextEdges.words(40));
        shot(y, 9, "s9 17-19 a:x");
        shot(y, 10, "s10 19-21 a:x");
        shot(y, 39, "s39 77-1000 a:x");
        TranscriptCutter z = Check.loaded("length 10000;speaker a;word a x 0 9;word a y 10 99;"
                + "word a z 100 999;word a u 1000 9999;");
        shot(z, 0, "s0 0-9 a:x");
        shot(z, 1, "s1 9-99 a:y");
        shot(z, 2, "s2 99-999 a:z");
        shot(z, 3, "s3 999-10000 a:u");
    }

    @Says("for each word of its block")
    static void promise48_longestNamesAndManyWords() {
        StringBuilder text = new StringBuilder("speaker abcdef;speaker b;word abcdef uvwxyz 0 99;");
        StringBuilder due = new StringBuilder("s0 0-1000 abcdef:uvwxyz");
        for (int k = 1; k < 40; k++) {
            text.append("word b z ").append(2 * k).append(' ').append(2 * k + 1).append(';');
            due.append(" b:[z]");
        }
        TranscriptCutter x = Check.loaded(text.toString());
        x.cut(1, 39);
        shot(x, 0, due.toString());
    }

    @Says("int formatShot(int shot) throws IndexOutOfBoundsException")
    static void promise48_noSuchShot() {
        Twins.indexed("formatShot", 2, shot -> x -> x.formatShot(shot));
    }

    @Says("The text replaces the previous formatted text.")
    static void promise48_replacesALongerOne() {
        TranscriptCutter x = Twins.talk();
        shot(x, 1, "s1 22-41 a:so b:yes");
        shot(x, 0, "s0 0-22 a:hi");
        Check.due("nothing of the longer one is left", x.formattedByte(12), -1);
    }

    @Says("Returns the byte at that offset; NONE if there is none.")
    static void promise49_firstAndLastByte() {
        Check.due("no text", new TranscriptCutter().formattedByte(0), -1);
        int[][] due = {{0, 's'}, {1, 'o'}, {2, ' '}, {3, '/'}, {6, 'i'}, {7, -1}, {-1, -1}, {MIN, -1},
            {MAX, -1}};
        for (int[] pair : due) {
            Twins.asks("formattedByte " + pair[0], pair[1], x -> x.formattedByte(pair[0]));
        }
    }

    @Says("Returns the byte at that offset; NONE if there is none.")
    static void promise49_actionsKeepTheText() {
        TranscriptCutter x = Twins.busy();
        x.undo();
        x.cut(0, 2);
        x.runScript();
        Check.due("the last byte", x.formattedByte(6), 'i');
        Check.due("behind it", x.formattedByte(7), -1);
    }
}
