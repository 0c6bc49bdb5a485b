/** Promises 47 to 49: formatted text. */
final class FormatTest {
    private FormatTest() {
    }

    static void run() {
        transcripts();
        shots();
        longest();
        bytes();
    }

    private static void transcript(String what, TranscriptCutter x, String due) {
        Check.due(what + ": length", x.formatTranscript(), due.length());
        Check.due(what, Check.formatted(x), due);
    }

    private static void shot(String what, TranscriptCutter x, int shot, String due) {
        Check.due(what + ": length", x.formatShot(shot), due.length());
        Check.due(what, Check.formatted(x), due);
    }

    private static void transcripts() {
        TranscriptCutter x = Check.loaded(RecordingTest.TALK);
        transcript("whole", x, "so so / yes we um we / ok / bye end");
        x.move(3, 3, 0);
        x.cutWord(6);
        x.cutWord(3);
        transcript("moved and cut", x, "so so / bye end / yes um we");
        x.cut(0, 5);
        transcript("one word", x, "we");
        x.cut(0, 0);
        transcript("nothing", x, "");
    }

    private static void shots() {
        TranscriptCutter x = Check.loaded(RecordingTest.TALK);
        shot("shot 0", x, 0, "s0 0-28 ann:so cy:so");
        shot("shot 1", x, 1, "s1 28-45 bo:yes ann:we cy:um bo:we");
        x.cutWord(4);
        x.cutWord(2);
        shot("muted", x, 1, "s1 28-45 bo:[yes] ann:we cy:[um] bo:we");
        x.move(3, 3, -1);
        x.cutWord(0);
        shot("moved", x, 0, "s0 70-200 ann:bye bo:end");
        shot("moved on", x, 1, "s1 0-28 ann:[so] cy:so");
        Check.noSuch("formatShot 4", () -> x.formatShot(4));
        Check.noSuch("formatShot -1", () -> x.formatShot(-1));
        Check.noSuch("formatShot max", () -> x.formatShot(Integer.MAX_VALUE));
        Check.due("a wrong call keeps the text", Check.formatted(x), "s1 0-28 ann:[so] cy:so");
    }

    private static void longest() {
        StringBuilder text = new StringBuilder("length 99999;speaker abcdef;speaker z;");
        StringBuilder due = new StringBuilder("s0 0-99999");
        // Each word overlaps the next one, of the other speaker.
        for (int k = 0; k < 40; k++) {
            String speaker = k == 0 ? "abcdef" : k % 2 == 0 ? "abcdef" : "z";
            if (k % 2 == 1 || k < 10) {
                text.append("word ").append(speaker).append(" uvwxyz ").append(2 * k).append(' ')
                        .append(2 * k + 3).append(';');
                due.append(' ').append(speaker).append(k < 5 ? ":[uvwxyz]" : ":uvwxyz");
            } else if (k == 10) {
                text.append("word abcdef uvwxyz 20 99;");
                due.append(" abcdef:uvwxyz");
            }
        }
        TranscriptCutter x = Check.loaded(text.toString());
        Check.due("one block", x.count(3), 1);
        for (int word = 0; word < 5; word++) {
            x.cutWord(word);
        }
        shot("a long shot", x, 0, due.toString());

        TranscriptCutter y = Check.loaded(ScriptRunTest.spoken("a b c d e f g h i j k l"));
        shot("a shot of two digits", y, 11, "s11 107-1000 s:l");
        shot("another one", y, 10, "s10 97-107 s:k");
        TranscriptCutter z = Check.loaded("length 12345;speaker s;word s a 0 1000;word s b 9998 12345;"
                + "word s c 9997 9998;");
        shot("five digits", z, 2, "s2 9998-12345 s:b");
        shot("four digits", z, 1, "s1 5498-9998 s:c");
    }

    private static void bytes() {
        TranscriptCutter x = Check.loaded(ScriptRunTest.spoken("a b"));
        Check.due("before a text", x.formattedByte(0), -1);
        x.formatTranscript();
        Check.due("first byte", x.formattedByte(0), 'a');
        Check.due("second byte", x.formattedByte(1), ' ');
        Check.due("last byte", x.formattedByte(4), 'b');
        Check.due("behind it", x.formattedByte(5), -1);
        Check.due("before it", x.formattedByte(-1), -1);
        Check.due("min", x.formattedByte(Integer.MIN_VALUE), -1);
        Check.due("max", x.formattedByte(Integer.MAX_VALUE), -1);
        x.cut(0, 0);
        Check.due("actions keep the text", Check.formatted(x), "a / b");
        x.formatTranscript();
        Check.due("a shorter text", x.formattedByte(1), -1);
    }
}
