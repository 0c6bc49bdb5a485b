/** What the tests share: counting what is wrong, and filling a cutter's buffer with a text. */
final class Check {
    /** A call whose answer, or whose exception, is looked at. */
    interface Call {
        int answer();
    }

    static final String NOTHING = "nothing";
    private static int checks = 0;
    private static int wrong = 0;
    private static String test = "";

    private Check() {
    }

    /** The name of the test that what comes now belongs to. */
    static void within(String name) {
        test = name;
    }

    static void due(String what, long answer, long due) {
        checks++;
        if (answer != due) {
            tell(what + " answered " + answer + ", due is " + due);
        }
    }

    static void due(String what, boolean answer, boolean due) {
        checks++;
        if (answer != due) {
            tell(what + " answered " + answer + ", due is " + due);
        }
    }

    static void due(String what, String answer, String due) {
        checks++;
        if (!answer.equals(due)) {
            tell(what + " answered '" + answer + "', due is '" + due + "'");
        }
    }

    static void noSuch(String what, Call call) {
        due(what + " throws", thrownBy(call), "IndexOutOfBoundsException");
    }

    static void notAllowed(String what, Call call) {
        due(what + " throws", thrownBy(call), "IllegalArgumentException");
    }

    static void notNow(String what, Call call) {
        due(what + " throws", thrownBy(call), "IllegalStateException");
    }

    static String thrownBy(Call call) {
        try {
            call.answer();
            return NOTHING;
        } catch (RuntimeException e) {
            return e.getClass().getSimpleName();
        }
    }

    static void fill(TranscriptCutter x, String text) {
        x.truncate(0);
        for (int at = 0; at < text.length(); at += 20) {
            x.append(four(text, at), four(text, at + 4), four(text, at + 8), four(text, at + 12),
                    four(text, at + 16));
        }
        x.truncate(text.length());
    }

    private static int four(String text, int at) {
        int word = 0;
        for (int i = at; i < at + 4; i++) {
            word = word << 8 | (i < text.length() ? text.charAt(i) : 0);
        }
        return word;
    }

    static TranscriptCutter loaded(String text) {
        TranscriptCutter x = new TranscriptCutter();
        fill(x, text);
        x.load();
        return x;
    }

    static int script(TranscriptCutter x, String script) {
        fill(x, script);
        return x.loadScript();
    }

    /** Loads a script and runs it. */
    static int run(TranscriptCutter x, String script) {
        script(x, script);
        return x.runScript();
    }

    /** "" if the text is read, otherwise the kind and the offset of its error. */
    static String errorOf(String text) {
        TranscriptCutter x = new TranscriptCutter();
        fill(x, text);
        return error(x, thrownBy(x::load));
    }

    /** "" if the script is read, otherwise the kind and the offset of its error. */
    static String scriptErrorOf(String script) {
        TranscriptCutter x = new TranscriptCutter();
        fill(x, script);
        return error(x, thrownBy(x::loadScript));
    }

    /** The text has this kind of error, at the "^" in it. */
    static void wrongText(int kind, String marked) {
        String text = withoutMark(marked);
        due(text, errorOf(text), kind + " at " + marked.indexOf('^'));
    }

    /** The script has this kind of error, at the "^" in it. */
    static void wrongScript(int kind, String marked) {
        String script = withoutMark(marked);
        due(script, scriptErrorOf(script), kind + " at " + marked.indexOf('^'));
    }

    private static String withoutMark(String marked) {
        int offset = marked.indexOf('^');
        return marked.substring(0, offset) + marked.substring(offset + 1);
    }

    static void rightText(String text) {
        due(text, errorOf(text), "");
    }

    static void rightScript(String script) {
        due(script, scriptErrorOf(script), "");
    }

    private static String error(TranscriptCutter x, String thrown) {
        if (thrown.equals(NOTHING)) {
            return x.errorKind() == 0 && x.errorOffset() == -1 ? "" : "an error without exception";
        }
        return (thrown.equals("IllegalArgumentException") ? "" : thrown + " ")
                + x.errorKind() + " at " + x.errorOffset();
    }

    /** The formatted text. */
    static String formatted(TranscriptCutter x) {
        StringBuilder text = new StringBuilder();
        int i = 0;
        for (int value = x.formattedByte(0); value != -1; value = x.formattedByte(i)) {
            text.append((char) value);
            i++;
        }
        return text.toString();
    }

    /** The words of the transcript by their numbers, then "|" and the blocks of the film. */
    static String film(TranscriptCutter x) {
        StringBuilder text = new StringBuilder();
        int size = x.transcriptSize();
        for (int k = 0; k < size; k++) {
            text.append(x.transcriptWord(k)).append(' ');
        }
        text.append('|');
        int shots = x.shots();
        for (int shot = 0; shot < shots; shot++) {
            text.append(' ').append(x.blockOf(shot));
        }
        return text.toString();
    }

    /** All that the actions change. */
    static String state(TranscriptCutter x) {
        StringBuilder text = new StringBuilder(film(x));
        int blocks = x.count(3);
        for (int block = 0; block < blocks; block++) {
            text.append(' ').append(x.blockField(block, 6)).append('/').append(x.blockField(block, 7));
        }
        text.append(" undo ").append(x.undoDepth()).append(" length ").append(x.filmLength());
        return text.toString();
    }

    static String repeated(String part, int times) {
        StringBuilder text = new StringBuilder();
        for (int i = 0; i < times; i++) {
            text.append(part);
        }
        return text.toString();
    }

    private static void tell(String line) {
        wrong++;
        if (wrong <= 50) {
            System.out.println(test + line);
        }
    }

    /** Whether all was right so far; prints how much was looked at. */
    static boolean allRight() {
        System.out.println(checks + " answers of the project's tests, " + wrong + " wrong");
        return wrong == 0;
    }
}
