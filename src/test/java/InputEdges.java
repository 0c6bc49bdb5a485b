/** The edges of promises 1 to 7: a new object, the input buffer, loading; and of the 512 calls. */
final class InputEdges {
    private static final int MIN = Integer.MIN_VALUE;
    private static final int MAX = Integer.MAX_VALUE;
    private static final int BLANKS = 0x20202020;

    private InputEdges() {
    }

    /** An object with that many blanks in its buffer. */
    private static TranscriptCutter blanks(int length) {
        TranscriptCutter x = new TranscriptCutter();
        Check.fill(x, " ".repeat(length));
        return x;
    }

    private static int appendBlanks(TranscriptCutter x) {
        return x.append(BLANKS, BLANKS, BLANKS, BLANKS, BLANKS);
    }

    private static void bufferHas(TranscriptCutter x, int length) {
        Check.due("the buffer has no byte more than " + length, x.truncate(length + 1), false);
        Check.due("the buffer has " + length + " bytes", x.truncate(length), true);
    }

    @Says("An object is used for at most 512 calls after it has been made")
    static void object_the512thCall() {
        TranscriptCutter x = Twins.talk();
        // 130 bytes are 7 calls of append; with two of truncate and one of load that makes 10.
        for (int call = 11; call < 512; call++) {
            Check.due("call " + call, x.setHandles(1, call % 3, 0), 19 + call % 3);
        }
        Check.due("call 512", x.undo(), 11);
    }

    @Says("Creates an editor without speakers and words, as an empty text describes it")
    static void promise01_asAnEmptyText() {
        TranscriptCutter x = new TranscriptCutter();
        TranscriptCutter other = new TranscriptCutter();
        Check.due("load of an empty text", x.load(), 0);
        Twins.same("an empty text", x, other);
        Check.due("no speakers", other.count(1), 0);
        Check.due("no words", other.count(2), 0);
    }

    @Says("with an empty script and an empty buffer")
    static void promise01_emptyScript() {
        TranscriptCutter x = new TranscriptCutter();
        Check.due("the script begins nothing", x.runScript(), 0);
        TranscriptCutter other = new TranscriptCutter();
        Check.due("an empty script", other.loadScript(), 0);
        Twins.same("an empty script", other, new TranscriptCutter());
    }

    @Says("with an empty script and an empty buffer")
    static void promise01_emptyBuffer() {
        TranscriptCutter x = new TranscriptCutter();
        bufferHas(x, 0);
        Check.due("the first append", appendBlanks(x), 20);
    }

    @Says("Appends 20 bytes to the input buffer: the four bytes of each parameter in turn, "
            + "the most significant byte first.")
    static void promise02_mostSignificantByteFirst() {
        TranscriptCutter x = new TranscriptCutter();
        // "handle 7;length 321;"
        x.append(0x68616e64, 0x6c652037, 0x3b6c656e, 0x67746820, 0x3332313b);
        Check.due("load", x.load(), 0);
        Check.due("handle", x.count(5), 7);
        Check.due("length", x.count(0), 321);
    }

    @Says("Appends 20 bytes to the input buffer: the four bytes of each parameter in turn, "
            + "the most significant byte first.")
    static void promise02_eachOfTheTwentyBytes() {
        for (int place = 0; place < 20; place++) {
            for (int value : new int[] {0, 0x7f, 0x80, 0xff}) {
                TranscriptCutter x = new TranscriptCutter();
                int[] words = {BLANKS, BLANKS, BLANKS, BLANKS, BLANKS};
                int shift = 24 - place % 4 * 8;
                words[place / 4] = BLANKS & ~(0xff << shift) | value << shift;
                x.append(words[0], words[1], words[2], words[3], words[4]);
                Check.notAllowed("byte " + value + " at " + place, x::load);
                Check.due("byte " + value + " stands at", x.errorOffset(), place);
            }
        }
    }

    @Says("Returns the new length of the buffer; NONE, and nothing is appended, "
            + "if the buffer would exceed 900 bytes.")
    static void promise02_fullWith900Bytes() {
        TranscriptCutter x = new TranscriptCutter();
        for (int length = 20; length <= 900; length += 20) {
            Check.due("append up to " + length, appendBlanks(x), length);
        }
        Check.due("append behind 900", appendBlanks(x), -1);
        bufferHas(x, 900);
    }

    @Says("Returns the new length of the buffer; NONE, and nothing is appended, "
            + "if the buffer would exceed 900 bytes.")
    static void promise02_from880AndFrom881() {
        Check.due("to 900", appendBlanks(blanks(880)), 900);
        for (int length : new int[] {881, 890, 899, 900}) {
            TranscriptCutter x = blanks(length);
            Check.due("append behind " + length, appendBlanks(x), -1);
            bufferHas(x, length);
        }
    }

    @Says("NONE, and nothing is appended, if the buffer would exceed 900 bytes")
    static void promise02_refusedBytesLeaveTheTextAlone() {
        TranscriptCutter x = new TranscriptCutter();
        String text = "handle 77;" + " ".repeat(875) + "length 5;";
        Check.fill(x, text);
        Check.due("append to 894 bytes", x.append(0x23232323, 0, -1, 0x3b3b3b3b, 1), -1);
        Check.due("the text loads", x.load(), 0);
        Check.due("its first line", x.count(5), 77);
        Check.due("its last line", x.count(0), 5);
    }

    @Says("Returns true if the length was 0 to the current length; false, and nothing changes, "
            + "otherwise.")
    static void promise03_emptyBuffer() {
        for (int length : new int[] {1, -1, 20, 900, MIN, MAX}) {
            TranscriptCutter x = new TranscriptCutter();
            Check.due("truncate " + length, x.truncate(length), false);
            bufferHas(x, 0);
        }
        Check.due("truncate 0", new TranscriptCutter().truncate(0), true);
    }

    @Says("Returns true if the length was 0 to the current length; false, and nothing changes, "
            + "otherwise.")
    static void promise03_currentLengthAndOneMore() {
        for (int length : new int[] {1, 19, 20, 21, 899, 900}) {
            TranscriptCutter x = blanks(length);
            for (int wrong : new int[] {length + 1, 901, -1, MIN, MAX}) {
                Check.due("truncate " + wrong + " of " + length, x.truncate(wrong), false);
            }
            bufferHas(x, length);
            Check.due("one less", x.truncate(length - 1), true);
            bufferHas(x, length - 1);
            Check.due("to nothing", x.truncate(0), true);
            bufferHas(x, 0);
        }
    }

    @Says("Shortens the input buffer to its first bytes.")
    static void promise03_firstBytesStay() {
        TranscriptCutter x = new TranscriptCutter();
        Check.fill(x, "length 5;length 6;");
        Check.due("truncate 9", x.truncate(9), true);
        x.load();
        Check.due("the first line", x.count(0), 5);
        Check.due("nothing else", x.errorKind(), 0);
    }

    @Says("false, and nothing changes, otherwise")
    static void promise03_refusedChangesNothing() {
        int[] wrong = {-1, Twins.BUSY_BUFFER + 1, MIN, MAX};
        for (int length : wrong) {
            Twins.asks("truncate " + length, 0, x -> x.truncate(length) ? 1 : 0);
        }
    }

    @Says("replaces the recording by it: all words are kept, all heads and tails are 0, "
            + "and no action can be undone")
    static void promise04_sameTextAgain() {
        TranscriptCutter x = Twins.busy();
        Check.fill(x, Twins.TALK);
        Check.due("load", x.load(), 4);
        Check.due("state", Check.state(x), Check.state(Twins.talk()));
        Check.due("undo", x.undo(), -1);
        Check.due("state then", Check.state(x), Check.state(Twins.talk()));
    }

    @Says("replaces the recording by it: all words are kept, all heads and tails are 0, "
            + "and no action can be undone")
    static void promise04_emptyText() {
        TranscriptCutter x = Twins.busy();
        x.truncate(0);
        Check.due("load", x.load(), 0);
        Check.due("state", Check.state(x), Check.state(new TranscriptCutter()));
        Check.due("undo", x.undo(), -1);
        int[] due = {1000, 0, 0, 0, 0, 12};
        for (int what = 0; what < due.length; what++) {
            Check.due("count " + what, x.count(what), due[what]);
        }
    }

    @Says("The buffer is empty afterwards, also on an error.")
    static void promise04_bufferIsEmptyAfterwards() {
        TranscriptCutter x = blanks(900);
        x.load();
        bufferHas(x, 0);
        Check.fill(x, "#".repeat(900));
        Check.notAllowed("900 wrong bytes", x::load);
        bufferHas(x, 0);
        Check.due("nothing is left to be wrong", x.load(), 0);
    }

    @Says("The script, what is told of the latest run, and the formatted text stay.")
    static void promise04_whatStays() {
        TranscriptCutter x = Twins.busy();
        Check.fill(x, Twins.TALK);
        x.load();
        Check.due("failed", x.failed(), 1);
        Check.due("formatted text", Check.formatted(x), "so / hi");
        Check.due("the script", x.runScript(), 4);
        TranscriptCutter y = Twins.talk();
        Check.run(y, "repeat 9 {".repeat(5) + "}".repeat(5));
        Check.fill(y, "");
        y.load();
        Check.due("stopped", y.wasStopped(), true);
    }

    @Says("Returns the number of words.")
    static void promise04_noneOneAndFortyWords() {
        TranscriptCutter x = new TranscriptCutter();
        for (int words : new int[] {0, 1, 39, 40, 0, 40, 1}) {
            Check.fill(x, TextEdges.words(words));
            Check.due("load of " + words, x.load(), words);
            Check.due("words", x.count(2), words);
            Check.due("blocks", x.count(3), words);
        }
    }

    @Says("replaces the recording by it")
    static void promise04_nothingIsLeftOfTheOneBefore() {
        String[] texts = {TextEdges.words(12) + "length 99;handle 9;speaker b;breath 1 2;breath 3 4;",
            Twins.TALK, "speaker z;word z hi 500 900;word z so 903 904;", ""};
        for (int turn = 0; turn < 64; turn++) {
            TranscriptCutter x = new TranscriptCutter();
            for (int k : new int[] {turn / 16, turn / 4 % 4, turn % 4}) {
                Check.fill(x, texts[k]);
                x.load();
            }
            Check.due("three texts in turn " + turn, Twins.answersOf(x),
                    Twins.answersOf(Check.loaded(texts[turn % 4])));
        }
    }

    @Says({"if the text does not match; everything else stays as it is",
        "The buffer is empty afterwards, also on an error."})
    static void promise04_wrongTextChangesNothing() {
        String[] wrong = {"#", Twins.TALK + "#", "length 7;handle 9;speaker z;word z x 1 8;", "speaker"};
        for (String text : wrong) {
            onlyEmptiesTheBuffer(text, TranscriptCutter::load);
        }
    }

    /** The call on an object with this text is refused; then only the buffer and the error differ. */
    private static void onlyEmptiesTheBuffer(String text, Twins.Act call) {
        TranscriptCutter x = Twins.busy();
        TranscriptCutter other = Twins.busy();
        Check.fill(x, text);
        Check.notAllowed("'" + text + "'", () -> call.on(x));
        other.truncate(0);
        Twins.sameButError("'" + text + "'", x, other);
    }

    @Says("Parses the input buffer as a script text and replaces the script by it.")
    static void promise05_emptyScript() {
        TranscriptCutter x = Twins.busy();
        x.truncate(0);
        Check.due("loadScript", x.loadScript(), 0);
        Check.due("it begins nothing", x.runScript(), 0);
    }

    @Says("Parses the input buffer as a script text and replaces the script by it.")
    static void promise05_changesOnlyTheScript() {
        TranscriptCutter x = Twins.busy();
        TranscriptCutter other = Twins.busy();
        Check.script(x, "cut (no);if (bye) {cut (bye);} restore (bye);");
        other.truncate(0);
        Twins.sameButError("the same script", x, other);
    }

    @Says("replaces the script by it")
    static void promise05_nothingIsLeftOfTheOneBefore() {
        String[] scripts = {"cut (hi so);cut (so);", "if (so) {cut (hi);} else {cut (bye);}",
            "repeat 2 {cut (yes);} move (hi) behind (bye);", "clean (hi);restore (yes bye);", ""};
        for (int turn = 0; turn < 125; turn++) {
            TranscriptCutter x = Twins.talk();
            TranscriptCutter other = Twins.talk();
            for (int k : new int[] {turn / 25, turn / 5 % 5}) {
                Check.run(x, scripts[k]);
                x.undo();
            }
            Check.due("three scripts in turn " + turn, Check.run(x, scripts[turn % 5]),
                    Check.run(other, scripts[turn % 5]));
            Check.due("failures in turn " + turn, x.failed(), other.failed());
            Check.due("film in turn " + turn, Check.state(x), Check.state(other));
        }
    }

    @Says("The buffer is empty afterwards, also on an error.")
    static void promise05_bufferIsEmptyAfterwards() {
        TranscriptCutter x = blanks(900);
        x.loadScript();
        bufferHas(x, 0);
        Check.fill(x, "#".repeat(900));
        Check.notAllowed("900 wrong bytes", x::loadScript);
        bufferHas(x, 0);
        Check.due("nothing is left to be wrong", x.loadScript(), 0);
    }

    @Says("Returns the number of commands, those in blocks included.")
    static void promise05_noneOneAndThirtyCommands() {
        TranscriptCutter x = new TranscriptCutter();
        Check.due("one", Check.script(x, "cut(a);"), 1);
        Check.due("none", Check.script(x, ""), 0);
        Check.due("an empty block", Check.script(x, "repeat 1{}"), 1);
        Check.due("in blocks", Check.script(x, "if(a){cut(a);}else{cut(b);if(b){cut(a);}}"), 5);
        Check.due("thirty", Check.script(x, "cut(a);".repeat(30)), 30);
        Check.due("thirty with those in blocks",
                Check.script(x, "repeat 1{".repeat(5) + "cut(a);".repeat(25) + "}".repeat(5)), 30);
    }

    @Says("if the text does not match; the script stays as it is")
    static void promise05_wrongScriptChangesNothing() {
        String[] wrong = {"#", "cut (hi);cut (so);#", "repeat 0 {}", "move (hi) behind (so)"};
        for (String script : wrong) {
            onlyEmptiesTheBuffer(script, TranscriptCutter::loadScript);
        }
    }

    private static void errorIs(String what, TranscriptCutter x, int kind, int offset) {
        Check.due(what + ": offset", x.errorOffset(), offset);
        Check.due(what + ": kind", x.errorKind(), kind);
    }

    @Says("Returns the error offset of the latest call of load or loadScript; NONE if that call "
            + "succeeded or if there was none.")
    static void promise06_smallestAndGreatestOffset() {
        TranscriptCutter x = new TranscriptCutter();
        Check.fill(x, "#");
        Check.notAllowed("a wrong first byte", x::load);
        Check.due("the first byte", x.errorOffset(), 0);
        Check.fill(x, " ".repeat(899) + "#");
        Check.notAllowed("a wrong last byte", x::load);
        Check.due("the last byte", x.errorOffset(), 899);
        Check.fill(x, "length 5" + " ".repeat(892));
        Check.notAllowed("a text that ends too early", x::load);
        Check.due("behind the last byte", x.errorOffset(), 900);
        Check.fill(x, "cut(a)" + " ".repeat(894));
        Check.notAllowed("a script that ends too early", x::loadScript);
        Check.due("behind its last byte", x.errorOffset(), 900);
    }

    @Says("Returns the error offset of the latest call of load or loadScript; NONE if that call "
            + "succeeded or if there was none.")
    static void promise06_noneAtFirstAndAfterSuccess() {
        TranscriptCutter x = new TranscriptCutter();
        errorIs("no call", x, 0, -1);
        for (int turn = 0; turn < 2; turn++) {
            Check.fill(x, "#");
            Check.notAllowed("load", x::load);
            errorIs("load failed", x, TranscriptCutter.SYNTAX, 0);
            x.loadScript();
            errorIs("loadScript succeeded", x, 0, -1);
            Check.fill(x, " repeat 0");
            Check.notAllowed("loadScript", x::loadScript);
            errorIs("loadScript failed", x, TranscriptCutter.BAD_NUMBER, 8);
            x.load();
            errorIs("load succeeded", x, 0, -1);
        }
    }

    @Says("Returns the kind of error of the latest call of load or loadScript; 0 if that call "
            + "succeeded or if there was none.")
    static void promise07_allKindsAndNone() {
        TranscriptCutter x = new TranscriptCutter();
        String[] wrong = {"length 5", "length 0;", "word a b 1 2;", "speaker a;speaker b;speaker c;"
            + "speaker d;speaker e;"};
        int[] due = {TranscriptCutter.SYNTAX, TranscriptCutter.BAD_NUMBER, TranscriptCutter.BAD_NAME,
            TranscriptCutter.TOO_MANY};
        Check.due("no call", x.errorKind(), 0);
        for (int k = 0; k < wrong.length; k++) {
            Check.fill(x, wrong[k]);
            Check.notAllowed(wrong[k], x::load);
            Check.due(wrong[k], x.errorKind(), due[k]);
        }
        x.loadScript();
        Check.due("a right call", x.errorKind(), 0);
    }

    @Says("Returns the kind of error of the latest call of load or loadScript; 0 if that call "
            + "succeeded or if there was none.")
    static void promise07_otherCallsKeepIt() {
        TranscriptCutter x = Twins.busy();
        errorIs("at first", x, TranscriptCutter.SYNTAX, 5);
        appendBlanks(x);
        x.truncate(0);
        x.runScript();
        x.undo();
        Check.noSuch("a wrong word", () -> x.cutWord(4));
        errorIs("after other calls", x, TranscriptCutter.SYNTAX, 5);
    }
}
