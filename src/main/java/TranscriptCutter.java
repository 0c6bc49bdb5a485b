/**
 * A transcript editor for documentaries: cuts of the text cut the film. What each method promises
 * stands in ../shared/DOC.md; this file keeps to ../shared/LANGUAGE.md.
 */
public final class TranscriptCutter {
    public static final int NONE = -1;
    public static final int KEPT = 0;
    public static final int MUTED = 1;
    public static final int CUT = 2;
    public static final int SYNTAX = 1;
    public static final int BAD_NUMBER = 2;
    public static final int BAD_NAME = 3;
    public static final int TOO_MANY = 4;

    private static final int INPUT_LIMIT = 900;
    private static final int SPEAKER_LIMIT = 4;
    private static final int WORD_LIMIT = 40;
    private static final int BREATH_LIMIT = 12;
    private static final int LETTER_LIMIT = 6;
    private static final int DIGIT_LIMIT = 5;
    private static final int FRAME_LIMIT = 99999;
    private static final int HANDLE_LIMIT = 999;
    private static final int DEFAULT_LENGTH = 1000;
    private static final int DEFAULT_HANDLE = 12;
    private static final int PHRASE_LIMIT = 6;
    private static final int COMMAND_LIMIT = 30;
    private static final int BLOCK_LIMIT = 5;
    private static final int REPEAT_LIMIT = 9;
    private static final int RUN_LIMIT = 200;
    private static final int UNDO_LIMIT = 12;

    private final Tokens tokens;
    private final Film film;
    private final History history;
    private final Runner runner;
    private final FormattedText formatted;
    // What a text is read into, so that a wrong text leaves the present one alone.
    private Recording draftRecording;
    private Script draftScript;

    public TranscriptCutter() {
        tokens = new Tokens();
        film = new Film();
        history = new History();
        runner = new Runner();
        formatted = new FormattedText();
        draftRecording = new Recording();
        draftScript = new Script();
    }

    // ---- input

    public int append(int w0, int w1, int w2, int w3, int w4) {
        if (tokens.length + 20 > INPUT_LIMIT) {
            return NONE;
        }
        tokens.putFour(w0);
        tokens.putFour(w1);
        tokens.putFour(w2);
        tokens.putFour(w3);
        tokens.putFour(w4);
        return tokens.length;
    }

    public boolean truncate(int length) {
        if (length < 0 || length > tokens.length) {
            return false;
        }
        tokens.length = length;
        return true;
    }

    public int load() throws IllegalArgumentException {
        boolean matches = TextGrammar.read(tokens, draftRecording);
        tokens.length = 0;
        if (!matches) {
            throw new IllegalArgumentException("the text does not match");
        }
        draftRecording = film.exchangeRecording(draftRecording);
        history.depth = 0;
        return film.recording.wordCount;
    }

    public int loadScript() throws IllegalArgumentException {
        boolean matches = ScriptGrammar.read(tokens, draftScript);
        tokens.length = 0;
        if (!matches) {
            throw new IllegalArgumentException("the script does not match");
        }
        draftScript = runner.exchangeScript(draftScript);
        return runner.script.size;
    }

    public int errorOffset() {
        return tokens.wrongOffset;
    }

    public int errorKind() {
        return tokens.wrongKind;
    }

    // ---- the recording

    public int count(int what) {
        Recording recording = film.recording;
        switch (what) {
            case 0:
                return recording.length;
            case 1:
                return recording.speakerCount;
            case 2:
                return recording.wordCount;
            case 3:
                return recording.blockCount;
            case 4:
                return recording.breathCount;
            case 5:
                return recording.handle;
            default:
                return NONE;
        }
    }

    public int wordField(int word, int what) throws IndexOutOfBoundsException {
        requireWord(word);
        Recording recording = film.recording;
        switch (what) {
            case 0:
                return recording.wordSpeaker[word];
            case 1:
                return recording.wordStart[word];
            case 2:
                return recording.wordEnd[word];
            case 3:
                return recording.wordBlock[word];
            case 4:
                return film.stateOf(word);
            case 5:
                return recording.countOverlapping(word);
            default:
                return NONE;
        }
    }

    public boolean isSameText(int word, int other) throws IndexOutOfBoundsException {
        requireWord(word);
        requireWord(other);
        return film.recording.wordText[word] == film.recording.wordText[other];
    }

    public boolean overlap(int word, int other) throws IndexOutOfBoundsException {
        requireWord(word);
        requireWord(other);
        return film.recording.shareFrame(word, other);
    }

    public int differentTexts() {
        return film.recording.countTexts();
    }

    public int blockField(int block, int what) throws IndexOutOfBoundsException {
        requireBlock(block);
        Recording recording = film.recording;
        switch (what) {
            case 0:
                return recording.blockStart[block];
            case 1:
                return recording.blockEnd[block];
            case 2:
                return recording.blockWord[block + 1] - recording.blockWord[block];
            case 3:
                return film.countKept(block);
            case 4:
                return recording.rangeStart(block);
            case 5:
                return recording.blockCut[block];
            case 6:
                return film.edit.head[block];
            case 7:
                return film.edit.tail[block];
            case 8:
                return film.blockShot[block];
            default:
                return NONE;
        }
    }

    public int blockAt(int frame) {
        return film.recording.blockWithFrame(frame);
    }

    public boolean isSnapped(int block) throws IndexOutOfBoundsException {
        requireBlock(block);
        return film.recording.blockSnapped[block];
    }

    public int speakersAt(int frame) {
        return film.recording.speakerSet(frame);
    }

    // ---- the film

    public int shots() {
        return film.edit.shotCount;
    }

    public int blockOf(int shot) throws IndexOutOfBoundsException {
        requireShot(shot);
        return film.edit.order[shot];
    }

    public int shotField(int shot, int what) throws IndexOutOfBoundsException {
        requireShot(shot);
        switch (what) {
            case 0:
                return film.shotFirst[shot];
            case 1:
                return film.shotBehind[shot];
            case 2:
                return film.shotStart[shot];
            default:
                return NONE;
        }
    }

    public int filmLength() {
        return film.frames;
    }

    public int clips() {
        return film.clipCount;
    }

    public int clipField(int k, int what) {
        if (k < 0 || k >= film.clipCount) {
            return NONE;
        }
        int first = film.clipShot[k];
        int next = film.clipShot[k + 1];
        switch (what) {
            case 0:
                return film.shotFirst[first];
            case 1:
                return film.shotBehind[next - 1];
            case 2:
                return film.shotStart[first];
            case 3:
                return next - first;
            default:
                return NONE;
        }
    }

    public int sourceOf(int frame) {
        int shot = film.shotWithFrame(frame);
        return shot == NONE ? NONE : film.sourceIn(shot, frame);
    }

    public int heard(int frame, int speaker) throws IndexOutOfBoundsException {
        requireSpeaker(speaker);
        return film.wordHeard(frame, speaker);
    }

    public int silence() {
        return film.silentFrames;
    }

    public int longestSilence() {
        return film.longestSilent;
    }

    public int speakingTime(int speaker) throws IndexOutOfBoundsException {
        requireSpeaker(speaker);
        return film.framesOfSpeaker(speaker);
    }

    // ---- the transcript

    public int transcriptSize() {
        return film.places;
    }

    public int transcriptWord(int k) {
        if (k < 0 || k >= film.places) {
            return NONE;
        }
        return film.transcript[k];
    }

    public int placeOf(int word) throws IndexOutOfBoundsException {
        requireWord(word);
        return film.wordPlace[word];
    }

    public int startInFilm(int word) throws IndexOutOfBoundsException {
        requireWord(word);
        return film.firstFrameHeard(word);
    }

    public int occurrences(int word) throws IndexOutOfBoundsException {
        requireWord(word);
        return film.countPlacesLike(word);
    }

    public int stutters() {
        return film.countStutters();
    }

    // ---- trials

    public int lengthIfCut(int from, int to) throws IllegalArgumentException {
        requirePlaces(from, to);
        return film.lengthWithoutPlaces(from, to);
    }

    public int lengthIfRestored(int word) throws IndexOutOfBoundsException {
        requireWord(word);
        return film.lengthWithWord(word);
    }

    public int shotsToCut(int length) {
        if (length < 0) {
            return NONE;
        }
        return film.countShotsBeyond(length);
    }

    // ---- actions

    public int cut(int from, int to) throws IllegalArgumentException {
        requirePlaces(from, to);
        history.record(film.edit);
        int framesBefore = film.frames;
        film.cutPlaces(from, to);
        return framesBefore - film.frames;
    }

    public int cutWord(int word) throws IndexOutOfBoundsException, IllegalStateException {
        requireWord(word);
        int place = film.wordPlace[word];
        if (place == NONE) {
            throw new IllegalStateException("the word is not kept");
        }
        history.record(film.edit);
        film.cutPlaces(place, place);
        return film.stateOf(word);
    }

    public int restore(int word, int other)
            throws IndexOutOfBoundsException, IllegalArgumentException {
        requireWord(word);
        requireWord(other);
        if (other < word) {
            throw new IllegalArgumentException("the last word is before the first one");
        }
        history.record(film.edit);
        return film.keepAgain(word, other);
    }

    public int move(int first, int last, int behind)
            throws IndexOutOfBoundsException, IllegalArgumentException {
        requireShot(first);
        requireShot(last);
        if (last < first) {
            throw new IllegalArgumentException("the last shot is before the first one");
        }
        if (behind < NONE || behind >= film.edit.shotCount) {
            throw new IllegalArgumentException("there is no such shot to move behind");
        }
        if (behind >= first && behind <= last) {
            throw new IllegalArgumentException("the shot to move behind is moved itself");
        }
        history.record(film.edit);
        return film.carryShots(first, last, behind);
    }

    public int setHandles(int block, int head, int tail)
            throws IndexOutOfBoundsException, IllegalArgumentException {
        requireBlock(block);
        if (head < 0 || head > HANDLE_LIMIT || tail < 0 || tail > HANDLE_LIMIT) {
            throw new IllegalArgumentException("a head or tail is 0 to 999");
        }
        history.record(film.edit);
        film.edit.head[block] = head;
        film.edit.tail[block] = tail;
        film.layOut();
        int shot = film.blockShot[block];
        return shot == NONE ? 0 : film.framesOfShot(shot);
    }

    public int runScript() {
        history.record(film.edit);
        runner.runAll(film);
        return runner.begun;
    }

    public int failed() {
        return runner.failures;
    }

    public boolean wasStopped() {
        return runner.stopped;
    }

    public int undo() {
        if (history.depth == 0) {
            return NONE;
        }
        history.giveBack(film.edit);
        film.layOut();
        return history.depth;
    }

    public int undoDepth() {
        return history.depth;
    }

    // ---- formatted text

    public int formatTranscript() {
        formatted.writeTranscript(film);
        return formatted.length;
    }

    public int formatShot(int shot) throws IndexOutOfBoundsException {
        requireShot(shot);
        formatted.writeShot(film, shot);
        return formatted.length;
    }

    public int formattedByte(int index) {
        if (index < 0 || index >= formatted.length) {
            return NONE;
        }
        return formatted.bytes[index];
    }

    // ---- what the parameters must be

    private void requireWord(int word) {
        if (word < 0 || word >= film.recording.wordCount) {
            throw new IndexOutOfBoundsException("no such word");
        }
    }

    private void requireBlock(int block) {
        if (block < 0 || block >= film.recording.blockCount) {
            throw new IndexOutOfBoundsException("no such block");
        }
    }

    private void requireSpeaker(int speaker) {
        if (speaker < 0 || speaker >= film.recording.speakerCount) {
            throw new IndexOutOfBoundsException("no such speaker");
        }
    }

    private void requireShot(int shot) {
        if (shot < 0 || shot >= film.edit.shotCount) {
            throw new IndexOutOfBoundsException("no such shot");
        }
    }

    private void requirePlaces(int from, int to) {
        if (from < 0 || to < from || to >= film.places) {
            throw new IllegalArgumentException("no such places");
        }
    }

    /** The input buffer, read token by token; it remembers the first thing that is wrong. */
    private static final class Tokens {
        private static final int END = 0;
        private static final int LETTERS = 1;
        private static final int DIGITS = 2;
        private static final int SIGN = 3;

        final byte[] bytes = new byte[INPUT_LIMIT];
        int length;
        int wrongOffset = NONE;
        int wrongKind;
        private int tokenKind;
        private int tokenStart;
        private int tokenSize;

        void putFour(int word) {
            for (int shift = 24; shift >= 0 && length < INPUT_LIMIT; shift -= 8) {
                bytes[length] = (byte) (word >>> shift);
                length++;
            }
        }

        void begin() {
            wrongOffset = NONE;
            wrongKind = 0;
            tokenStart = 0;
            tokenSize = 0;
            advance();
        }

        void advance() {
            int at = tokenStart + tokenSize;
            while (at < length && (bytes[at] == ' ' || bytes[at] == '\t' || bytes[at] == '\n')) {
                at++;
            }
            tokenStart = at;
            tokenKind = LETTERS;
            while (at < length && bytes[at] >= 'a' && bytes[at] <= 'z') {
                at++;
            }
            if (at == tokenStart) {
                tokenKind = DIGITS;
                while (at < length && bytes[at] >= '0' && bytes[at] <= '9') {
                    at++;
                }
            }
            if (at == tokenStart) {
                tokenKind = at < length ? SIGN : END;
                at = Math.min(at + 1, length);
            }
            tokenSize = at - tokenStart;
        }

        /** Marks the present token as wrong; behind the last token that is the end of the text. */
        boolean fail(int kind) {
            wrongKind = kind;
            wrongOffset = tokenStart;
            return false;
        }

        boolean isEnd() {
            return tokenKind == END;
        }

        boolean isSign(char sign) {
            return tokenKind == SIGN && tokenStart < length && bytes[tokenStart] == sign;
        }

        boolean takeSign(char sign) {
            if (!isSign(sign)) {
                return fail(SYNTAX);
            }
            advance();
            return true;
        }

        boolean isKeyword(String keyword) {
            if (tokenKind != LETTERS || tokenSize != keyword.length()) {
                return false;
            }
            for (int i = 0; i < tokenSize && tokenStart + i < length; i++) {
                if (bytes[tokenStart + i] != keyword.charAt(i)) {
                    return false;
                }
            }
            return true;
        }

        /** The present token as a name, five bits a letter; NONE, and it is wrong, if it isn't one. */
        int nameHere() {
            if (tokenKind != LETTERS || tokenSize > LETTER_LIMIT) {
                fail(SYNTAX);
                return NONE;
            }
            int name = 0;
            for (int i = 0; i < tokenSize && tokenStart + i < length; i++) {
                name = name * 32 + bytes[tokenStart + i] - 'a' + 1;
            }
            return name;
        }

        /** The present token as a number in a range; NONE, and it is wrong, if it isn't one. */
        int numberHere(int low, int high) {
            if (tokenKind != DIGITS) {
                fail(SYNTAX);
                return NONE;
            }
            if (tokenSize > DIGIT_LIMIT) {
                fail(BAD_NUMBER);
                return NONE;
            }
            int number = 0;
            for (int i = 0; i < tokenSize && tokenStart + i < length; i++) {
                number = number * 10 + bytes[tokenStart + i] - '0';
            }
            if (number < low || number > high) {
                fail(BAD_NUMBER);
                return NONE;
            }
            return number;
        }
    }

    /** The grammar of the input text. */
    private static final class TextGrammar {
        static boolean read(Tokens tokens, Recording into) {
            into.clear();
            tokens.begin();
            for (int line = 0; line < INPUT_LIMIT && !tokens.isEnd(); line++) {
                if (!readLine(tokens, into) || !tokens.takeSign(';')) {
                    return false;
                }
            }
            if (!into.holdsAllWords()) {
                return tokens.fail(BAD_NUMBER);
            }
            into.findBlocks();
            return true;
        }

        private static boolean readLine(Tokens tokens, Recording into) {
            if (tokens.isKeyword("length")) {
                return readLength(tokens, into);
            }
            if (tokens.isKeyword("speaker")) {
                return readSpeaker(tokens, into);
            }
            if (tokens.isKeyword("word")) {
                return readWord(tokens, into);
            }
            if (tokens.isKeyword("breath")) {
                return readBreath(tokens, into);
            }
            if (tokens.isKeyword("handle")) {
                return readHandle(tokens, into);
            }
            return tokens.fail(SYNTAX);
        }

        private static boolean readLength(Tokens tokens, Recording into) {
            tokens.advance();
            int length = tokens.numberHere(1, FRAME_LIMIT);
            if (length == NONE) {
                return false;
            }
            tokens.advance();
            into.length = length;
            return true;
        }

        private static boolean readHandle(Tokens tokens, Recording into) {
            tokens.advance();
            int handle = tokens.numberHere(0, HANDLE_LIMIT);
            if (handle == NONE) {
                return false;
            }
            tokens.advance();
            into.handle = handle;
            return true;
        }

        private static boolean readSpeaker(Tokens tokens, Recording into) {
            if (into.speakerCount >= SPEAKER_LIMIT) {
                return tokens.fail(TOO_MANY);
            }
            tokens.advance();
            int name = tokens.nameHere();
            if (name == NONE) {
                return false;
            }
            if (into.speakerNamed(name) != NONE) {
                return tokens.fail(BAD_NAME);
            }
            tokens.advance();
            into.addSpeaker(name);
            return true;
        }

        private static boolean readWord(Tokens tokens, Recording into) {
            if (into.wordCount >= WORD_LIMIT) {
                return tokens.fail(TOO_MANY);
            }
            tokens.advance();
            int name = tokens.nameHere();
            if (name == NONE) {
                return false;
            }
            int speaker = into.speakerNamed(name);
            if (speaker == NONE) {
                return tokens.fail(BAD_NAME);
            }
            tokens.advance();
            int text = tokens.nameHere();
            if (text == NONE) {
                return false;
            }
            tokens.advance();
            int start = tokens.numberHere(0, FRAME_LIMIT - 1);
            if (start == NONE) {
                return false;
            }
            if (into.speaksBetween(speaker, start, start + 1)) {
                return tokens.fail(BAD_NUMBER);
            }
            tokens.advance();
            int end = tokens.numberHere(start + 1, FRAME_LIMIT);
            if (end == NONE) {
                return false;
            }
            if (into.speaksBetween(speaker, start, end)) {
                return tokens.fail(BAD_NUMBER);
            }
            tokens.advance();
            into.addWord(text, speaker, start, end);
            return true;
        }

        private static boolean readBreath(Tokens tokens, Recording into) {
            if (into.breathCount >= BREATH_LIMIT) {
                return tokens.fail(TOO_MANY);
            }
            tokens.advance();
            int start = tokens.numberHere(0, FRAME_LIMIT - 1);
            if (start == NONE) {
                return false;
            }
            tokens.advance();
            int end = tokens.numberHere(start + 1, FRAME_LIMIT);
            if (end == NONE) {
                return false;
            }
            tokens.advance();
            into.addBreath(start, end);
            return true;
        }
    }

    /** The grammar of the script text. */
    private static final class ScriptGrammar {
        static boolean read(Tokens tokens, Script into) {
            into.size = 0;
            tokens.begin();
            if (!readCommands(tokens, into, 0)) {
                return false;
            }
            return tokens.isEnd() || tokens.fail(SYNTAX);
        }

        /** Reads commands up to a "}" or the end of the text. */
        private static boolean readCommands(Tokens tokens, Script into, int depth) {
            // A command that is read is counted, and a 31st one is refused.
            for (int n = 0; n <= COMMAND_LIMIT && !tokens.isEnd() && !tokens.isSign('}'); n++) {
                if (!readCommand(tokens, into, depth)) {
                    return false;
                }
            }
            return true;
        }

        private static boolean readCommand(Tokens tokens, Script into, int depth) {
            int kind = kindHere(tokens);
            if (kind == NONE) {
                return tokens.fail(SYNTAX);
            }
            if (into.size >= COMMAND_LIMIT) {
                return tokens.fail(TOO_MANY);
            }
            tokens.advance();
            int command = into.size;
            into.size++;
            into.kind[command] = kind;
            boolean matches;
            if (kind == Script.REPEAT) {
                matches = readRepeat(tokens, into, command, depth);
            } else if (kind == Script.IF) {
                matches = readIf(tokens, into, command, depth);
            } else {
                matches = readChange(tokens, into, command);
            }
            into.next[command] = into.size;
            return matches;
        }

        private static int kindHere(Tokens tokens) {
            if (tokens.isKeyword("cut")) {
                return Script.CUT_ONE;
            }
            if (tokens.isKeyword("clean")) {
                return Script.CUT_ALL;
            }
            if (tokens.isKeyword("restore")) {
                return Script.KEEP;
            }
            if (tokens.isKeyword("move")) {
                return Script.CARRY;
            }
            if (tokens.isKeyword("if")) {
                return Script.IF;
            }
            return tokens.isKeyword("repeat") ? Script.REPEAT : NONE;
        }

        private static boolean readChange(Tokens tokens, Script into, int command) {
            if (!readPhrase(tokens, into, 2 * command)) {
                return false;
            }
            if (into.kind[command] == Script.CARRY) {
                if (!tokens.isKeyword("behind")) {
                    return tokens.fail(SYNTAX);
                }
                tokens.advance();
                if (!readPhrase(tokens, into, 2 * command + 1)) {
                    return false;
                }
            }
            return tokens.takeSign(';');
        }

        private static boolean readRepeat(Tokens tokens, Script into, int command, int depth) {
            int times = tokens.numberHere(1, REPEAT_LIMIT);
            if (times == NONE) {
                return false;
            }
            tokens.advance();
            into.times[command] = times;
            return readBlock(tokens, into, depth);
        }

        private static boolean readIf(Tokens tokens, Script into, int command, int depth) {
            if (!readPhrase(tokens, into, 2 * command) || !readBlock(tokens, into, depth)) {
                return false;
            }
            into.elseStart[command] = into.size;
            if (!tokens.isKeyword("else")) {
                return true;
            }
            tokens.advance();
            return readBlock(tokens, into, depth);
        }

        private static boolean readBlock(Tokens tokens, Script into, int depth) {
            if (!tokens.isSign('{')) {
                return tokens.fail(SYNTAX);
            }
            if (depth >= BLOCK_LIMIT) {
                return tokens.fail(TOO_MANY);
            }
            tokens.advance();
            return readCommands(tokens, into, depth + 1) && tokens.takeSign('}');
        }

        private static boolean readPhrase(Tokens tokens, Script into, int phrase) {
            if (!tokens.takeSign('(')) {
                return false;
            }
            int size = 0;
            for (int n = 0; n <= PHRASE_LIMIT && (n == 0 || !tokens.isSign(')')); n++) {
                int name = tokens.nameHere();
                if (name == NONE) {
                    return false;
                }
                if (size >= PHRASE_LIMIT) {
                    return tokens.fail(TOO_MANY);
                }
                into.names[phrase * PHRASE_LIMIT + size] = name;
                size++;
                tokens.advance();
            }
            into.phraseSize[phrase] = size;
            return tokens.takeSign(')');
        }
    }

    /** What was recorded: the same however the film is cut. */
    private static final class Recording {
        int length = DEFAULT_LENGTH;
        int handle = DEFAULT_HANDLE;
        int speakerCount;
        final int[] speakerName = new int[SPEAKER_LIMIT];
        int wordCount;
        final int[] wordText = new int[WORD_LIMIT];
        final int[] wordSpeaker = new int[WORD_LIMIT];
        final int[] wordStart = new int[WORD_LIMIT];
        final int[] wordEnd = new int[WORD_LIMIT];
        final int[] wordBlock = new int[WORD_LIMIT];
        int breathCount;
        private final int[] breathStart = new int[BREATH_LIMIT];
        private final int[] breathEnd = new int[BREATH_LIMIT];
        int blockCount;
        // The first word of each block; behind the last block stands the number of words.
        final int[] blockWord = new int[WORD_LIMIT + 1];
        final int[] blockStart = new int[WORD_LIMIT];
        final int[] blockEnd = new int[WORD_LIMIT];
        // The end of the range of each block: its cut point, or the length for the last block.
        final int[] blockCut = new int[WORD_LIMIT];
        final boolean[] blockSnapped = new boolean[WORD_LIMIT];

        void clear() {
            length = DEFAULT_LENGTH;
            handle = DEFAULT_HANDLE;
            speakerCount = 0;
            wordCount = 0;
            breathCount = 0;
            blockCount = 0;
        }

        void addSpeaker(int name) {
            if (speakerCount < SPEAKER_LIMIT) {
                speakerName[speakerCount] = name;
                speakerCount++;
            }
        }

        void addBreath(int start, int end) {
            if (breathCount < BREATH_LIMIT) {
                breathStart[breathCount] = start;
                breathEnd[breathCount] = end;
                breathCount++;
            }
        }

        /** Adds a word at its place in the order of the starts, then of the speakers. */
        void addWord(int text, int speaker, int start, int end) {
            if (wordCount >= WORD_LIMIT) {
                return;
            }
            int at = wordCount;
            while (at > 0 && isBefore(start, speaker, at - 1)) {
                wordText[at] = wordText[at - 1];
                wordSpeaker[at] = wordSpeaker[at - 1];
                wordStart[at] = wordStart[at - 1];
                wordEnd[at] = wordEnd[at - 1];
                at--;
            }
            wordText[at] = text;
            wordSpeaker[at] = speaker;
            wordStart[at] = start;
            wordEnd[at] = end;
            wordCount++;
        }

        private boolean isBefore(int start, int speaker, int word) {
            if (start != wordStart[word]) {
                return start < wordStart[word];
            }
            return speaker < wordSpeaker[word];
        }

        int speakerNamed(int name) {
            for (int s = 0; s < speakerCount; s++) {
                if (speakerName[s] == name) {
                    return s;
                }
            }
            return NONE;
        }

        boolean speaksBetween(int speaker, int start, int end) {
            for (int w = 0; w < wordCount; w++) {
                if (wordSpeaker[w] == speaker && wordStart[w] < end && start < wordEnd[w]) {
                    return true;
                }
            }
            return false;
        }

        boolean holdsAllWords() {
            for (int w = 0; w < wordCount; w++) {
                if (wordEnd[w] > length) {
                    return false;
                }
            }
            return true;
        }

        void findBlocks() {
            for (int w = 0; w < wordCount; w++) {
                // Words come by their starts, so only the reach of the latest block matters.
                if (blockCount == 0 || wordStart[w] >= blockEnd[blockCount - 1]) {
                    blockWord[blockCount] = w;
                    blockStart[blockCount] = wordStart[w];
                    blockEnd[blockCount] = wordEnd[w];
                    blockCount++;
                }
                int block = blockCount - 1;
                wordBlock[w] = block;
                blockEnd[block] = Math.max(blockEnd[block], wordEnd[w]);
            }
            blockWord[blockCount] = wordCount;
            for (int block = 0; block < blockCount; block++) {
                placeCutPoint(block);
            }
        }

        private void placeCutPoint(int block) {
            blockSnapped[block] = false;
            if (block + 1 >= blockCount) {
                blockCut[block] = length;
                return;
            }
            int gapStart = blockEnd[block];
            int gapEnd = blockStart[block + 1];
            blockCut[block] = (gapStart + gapEnd) / 2;
            int mostShared = 0;
            for (int k = 0; k < breathCount; k++) {
                int start = Math.max(gapStart, breathStart[k]);
                int end = Math.min(gapEnd, breathEnd[k]);
                if (end - start > mostShared) {
                    mostShared = end - start;
                    blockCut[block] = (start + end) / 2;
                    blockSnapped[block] = true;
                }
            }
        }

        int rangeStart(int block) {
            return block <= 0 ? 0 : blockCut[block - 1];
        }

        int rangeLength(int block) {
            return blockCut[block] - rangeStart(block);
        }

        /** The first frame that a shot of the block plays with this head. */
        int firstFrame(int block, int head) {
            if (block <= 0) {
                return 0;
            }
            return Math.max(blockCut[block - 1] - head, blockEnd[block - 1]);
        }

        /** The frame behind the last one that a shot of the block plays with this tail. */
        int frameBehind(int block, int tail) {
            if (block + 1 >= blockCount) {
                return length;
            }
            return Math.min(blockCut[block] + tail, blockStart[block + 1]);
        }

        boolean isSpoken(int word, int frame) {
            return frame >= wordStart[word] && frame < wordEnd[word];
        }

        boolean shareFrame(int word, int other) {
            return wordStart[word] < wordEnd[other] && wordStart[other] < wordEnd[word];
        }

        int countOverlapping(int word) {
            int count = 0;
            for (int w = 0; w < wordCount; w++) {
                if (w != word && shareFrame(w, word)) {
                    count++;
                }
            }
            return count;
        }

        int countTexts() {
            int count = 0;
            for (int w = 0; w < wordCount; w++) {
                if (firstWithText(wordText[w]) == w) {
                    count++;
                }
            }
            return count;
        }

        private int firstWithText(int text) {
            for (int w = 0; w < wordCount; w++) {
                if (wordText[w] == text) {
                    return w;
                }
            }
            return NONE;
        }

        int blockWithFrame(int frame) {
            for (int block = 0; block < blockCount; block++) {
                if (frame >= rangeStart(block) && frame < blockCut[block]) {
                    return block;
                }
            }
            return NONE;
        }

        int speakerSet(int frame) {
            int set = 0;
            for (int w = 0; w < wordCount; w++) {
                if (isSpoken(w, frame)) {
                    set |= 1 << wordSpeaker[w];
                }
            }
            return set;
        }
    }

    /** What the actions change, and what undoing one of them brings back. */
    private static final class Edit {
        final boolean[] kept = new boolean[WORD_LIMIT];
        int shotCount;
        // The block of each shot.
        final int[] order = new int[WORD_LIMIT];
        final int[] head = new int[WORD_LIMIT];
        final int[] tail = new int[WORD_LIMIT];

        void copyFrom(Edit other) {
            shotCount = other.shotCount;
            for (int i = 0; i < WORD_LIMIT; i++) {
                kept[i] = other.kept[i];
                order[i] = other.order[i];
                head[i] = other.head[i];
                tail[i] = other.tail[i];
            }
        }

        void keepEverything(int blockCount) {
            shotCount = blockCount;
            for (int i = 0; i < WORD_LIMIT; i++) {
                kept[i] = true;
                order[i] = i;
                head[i] = 0;
                tail[i] = 0;
            }
        }

        boolean holdsBlock(int block) {
            for (int shot = 0; shot < shotCount; shot++) {
                if (order[shot] == block) {
                    return true;
                }
            }
            return false;
        }

        void bringBackBlock(int block) {
            if (shotCount >= WORD_LIMIT) {
                return;
            }
            int at = shotBehindLowerBlocks(block);
            for (int shot = shotCount; shot > at; shot--) {
                order[shot] = order[shot - 1];
            }
            order[at] = block;
            shotCount++;
            head[block] = 0;
            tail[block] = 0;
        }

        /** The number behind that of the shot whose block is the greatest one below the block. */
        private int shotBehindLowerBlocks(int block) {
            int greatest = NONE;
            int behind = 0;
            for (int shot = 0; shot < shotCount; shot++) {
                if (order[shot] < block && order[shot] > greatest) {
                    greatest = order[shot];
                    behind = shot + 1;
                }
            }
            return behind;
        }
    }

    /** The recording as it is cut now, and where everything then stands in film and transcript. */
    private static final class Film {
        Recording recording = new Recording();
        final Edit edit = new Edit();
        int frames;
        final int[] shotFirst = new int[WORD_LIMIT];
        final int[] shotBehind = new int[WORD_LIMIT];
        final int[] shotStart = new int[WORD_LIMIT];
        // The first place of each shot; behind the last shot stands the number of places.
        final int[] shotPlace = new int[WORD_LIMIT + 1];
        final int[] blockShot = new int[WORD_LIMIT];
        int places;
        final int[] transcript = new int[WORD_LIMIT];
        final int[] wordPlace = new int[WORD_LIMIT];
        int clipCount;
        // The first shot of each clip; behind the last clip stands the number of shots.
        final int[] clipShot = new int[WORD_LIMIT + 1];
        int silentFrames;
        int longestSilent;
        private final int[] scratch = new int[WORD_LIMIT];

        /** Takes a new recording, whole and in its order, and gives the old one back for reuse. */
        Recording exchangeRecording(Recording newOne) {
            Recording old = recording;
            recording = newOne;
            edit.keepEverything(newOne.blockCount);
            layOut();
            return old;
        }

        /** Finds out again all that follows from the edit; to be called after each change of it. */
        void layOut() {
            frames = 0;
            places = 0;
            for (int i = 0; i < WORD_LIMIT; i++) {
                blockShot[i] = NONE;
                wordPlace[i] = NONE;
            }
            for (int shot = 0; shot < edit.shotCount; shot++) {
                int block = edit.order[shot];
                blockShot[block] = shot;
                shotFirst[shot] = recording.firstFrame(block, edit.head[block]);
                shotBehind[shot] = recording.frameBehind(block, edit.tail[block]);
                shotStart[shot] = frames;
                frames += framesOfShot(shot);
                shotPlace[shot] = places;
                for (int w = recording.blockWord[block]; w < recording.blockWord[block + 1]; w++) {
                    if (edit.kept[w]) {
                        wordPlace[w] = places;
                        transcript[places] = w;
                        places++;
                    }
                }
            }
            shotPlace[edit.shotCount] = places;
            findClips();
            measureSilence();
        }

        private void findClips() {
            clipCount = 0;
            for (int shot = 0; shot < edit.shotCount; shot++) {
                if (shot == 0 || shotFirst[shot] != shotBehind[shot - 1]) {
                    clipShot[clipCount] = shot;
                    clipCount++;
                }
            }
            clipShot[clipCount] = edit.shotCount;
        }

        private void measureSilence() {
            silentFrames = 0;
            longestSilent = 0;
            // A silence may go on from one shot into the next one.
            int silent = 0;
            for (int shot = 0; shot < edit.shotCount; shot++) {
                int heardUpTo = shotFirst[shot];
                for (int place = shotPlace[shot]; place < shotPlace[shot + 1]; place++) {
                    int word = transcript[place];
                    int pause = Math.max(0, recording.wordStart[word] - heardUpTo);
                    silentFrames += pause;
                    longestSilent = Math.max(longestSilent, silent + pause);
                    silent = 0;
                    heardUpTo = Math.max(heardUpTo, recording.wordEnd[word]);
                }
                silent += shotBehind[shot] - heardUpTo;
                silentFrames += shotBehind[shot] - heardUpTo;
            }
            longestSilent = Math.max(longestSilent, silent);
        }

        // ---- questions

        int stateOf(int word) {
            if (edit.kept[word]) {
                return KEPT;
            }
            return blockShot[recording.wordBlock[word]] == NONE ? CUT : MUTED;
        }

        int countKept(int block) {
            int count = 0;
            for (int w = recording.blockWord[block]; w < recording.blockWord[block + 1]; w++) {
                if (edit.kept[w]) {
                    count++;
                }
            }
            return count;
        }

        int framesOfShot(int shot) {
            return shotBehind[shot] - shotFirst[shot];
        }

        int shotWithFrame(int frame) {
            for (int shot = 0; shot < edit.shotCount; shot++) {
                int inShot = frame - shotStart[shot];
                if (frame >= 0 && inShot >= 0 && inShot < framesOfShot(shot)) {
                    return shot;
                }
            }
            return NONE;
        }

        /** The frame of the recording that the shot plays in this film frame of its own. */
        int sourceIn(int shot, int frame) {
            return shotFirst[shot] + frame - shotStart[shot];
        }

        int wordHeard(int frame, int speaker) {
            int shot = shotWithFrame(frame);
            if (shot == NONE) {
                return NONE;
            }
            int source = sourceIn(shot, frame);
            for (int place = shotPlace[shot]; place < shotPlace[shot + 1]; place++) {
                int word = transcript[place];
                if (recording.wordSpeaker[word] == speaker && recording.isSpoken(word, source)) {
                    return word;
                }
            }
            return NONE;
        }

        int framesOfSpeaker(int speaker) {
            int sum = 0;
            // No two words of one speaker share a frame, and a shot plays its words whole.
            for (int place = 0; place < places; place++) {
                int word = transcript[place];
                if (recording.wordSpeaker[word] == speaker) {
                    sum += recording.wordEnd[word] - recording.wordStart[word];
                }
            }
            return sum;
        }

        int firstFrameHeard(int word) {
            if (wordPlace[word] == NONE) {
                return NONE;
            }
            int shot = blockShot[recording.wordBlock[word]];
            if (shot == NONE) {
                return NONE;
            }
            return shotStart[shot] + recording.wordStart[word] - shotFirst[shot];
        }

        int countPlacesLike(int word) {
            int count = 0;
            for (int place = 0; place < places; place++) {
                if (recording.wordText[transcript[place]] == recording.wordText[word]) {
                    count++;
                }
            }
            return count;
        }

        int countStutters() {
            int count = 0;
            for (int place = 1; place < places; place++) {
                int before = transcript[place - 1];
                if (recording.wordText[before] == recording.wordText[transcript[place]]) {
                    count++;
                }
            }
            return count;
        }

        int lengthWithoutPlaces(int from, int to) {
            int length = frames;
            for (int shot = 0; shot < edit.shotCount; shot++) {
                if (shotPlace[shot] >= from && shotPlace[shot + 1] - 1 <= to) {
                    length -= framesOfShot(shot);
                }
            }
            return length;
        }

        int lengthWithWord(int word) {
            int block = recording.wordBlock[word];
            return blockShot[block] == NONE ? frames + recording.rangeLength(block) : frames;
        }

        /** The least number of shots without which the film has at most this length. */
        int countShotsBeyond(int length) {
            for (int shot = 0; shot < edit.shotCount; shot++) {
                scratch[shot] = framesOfShot(shot);
            }
            int left = frames;
            int count = 0;
            for (int n = 0; n < edit.shotCount && left > length; n++) {
                left -= takeGreatest();
                count++;
            }
            return count;
        }

        /** Takes the greatest one of the numbers in scratch away. */
        private int takeGreatest() {
            int greatest = 0;
            for (int shot = 1; shot < edit.shotCount; shot++) {
                if (scratch[shot] > scratch[greatest]) {
                    greatest = shot;
                }
            }
            int value = scratch[greatest];
            scratch[greatest] = 0;
            return value;
        }

        /** The first place at which the phrase stands in the transcript; NONE if it doesn't. */
        int findPhrase(Script script, int phrase) {
            int size = script.phraseSize[phrase];
            for (int place = 0; place + size <= places; place++) {
                int same = 0;
                while (same < size && recording.wordText[transcript[place + same]]
                        == script.nameAt(phrase, same)) {
                    same++;
                }
                if (same == size) {
                    return place;
                }
            }
            return NONE;
        }

        /** The first word at which the phrase stands in the recording, not all of it kept. */
        int findLostPhrase(Script script, int phrase) {
            int size = script.phraseSize[phrase];
            for (int word = 0; word + size <= recording.wordCount; word++) {
                int same = 0;
                boolean lost = false;
                while (same < size && recording.wordText[word + same]
                        == script.nameAt(phrase, same)) {
                    lost |= !edit.kept[word + same];
                    same++;
                }
                if (same == size && lost) {
                    return word;
                }
            }
            return NONE;
        }

        private int shotOfPlace(int place) {
            int shot = 0;
            while (shot + 1 < edit.shotCount && shotPlace[shot + 1] <= place) {
                shot++;
            }
            return shot;
        }

        // ---- changes

        void cutPlaces(int from, int to) {
            for (int place = from; place <= to && place < places; place++) {
                edit.kept[transcript[place]] = false;
            }
            int left = 0;
            for (int shot = 0; shot < edit.shotCount; shot++) {
                // Where all places of a shot are cut, its block has no kept word any more.
                if (shotPlace[shot] < from || shotPlace[shot + 1] - 1 > to) {
                    edit.order[left] = edit.order[shot];
                    left++;
                }
            }
            edit.shotCount = left;
            layOut();
        }

        /** Restores words; returns how many of them were not kept. */
        int keepAgain(int from, int to) {
            int count = 0;
            for (int word = from; word <= to && word < recording.wordCount; word++) {
                if (!edit.kept[word]) {
                    edit.kept[word] = true;
                    count++;
                    int block = recording.wordBlock[word];
                    if (!edit.holdsBlock(block)) {
                        edit.bringBackBlock(block);
                    }
                }
            }
            layOut();
            return count;
        }

        /** Moves shots; returns the number that the first one of them has then. */
        int carryShots(int first, int last, int behind) {
            edit.head[edit.order[first]] = recording.handle;
            edit.tail[edit.order[last]] = recording.handle;
            int size = last - first + 1;
            int target = behind < first ? behind + 1 : behind + 1 - size;
            int rest = 0;
            for (int shot = 0; shot < edit.shotCount; shot++) {
                if (shot >= first && shot <= last) {
                    scratch[target + shot - first] = edit.order[shot];
                } else {
                    scratch[rest < target ? rest : rest + size] = edit.order[shot];
                    rest++;
                }
            }
            System.arraycopy(scratch, 0, edit.order, 0, edit.shotCount);
            layOut();
            return target;
        }

        // ---- changes by phrases; each returns false if it fails

        boolean cutPhrase(Script script, int phrase, int mostTimes) {
            int times = 0;
            int place = findPhrase(script, phrase);
            while (place != NONE && times < mostTimes) {
                cutPlaces(place, place + script.phraseSize[phrase] - 1);
                times++;
                place = findPhrase(script, phrase);
            }
            return times > 0;
        }

        boolean keepPhraseAgain(Script script, int phrase) {
            int word = findLostPhrase(script, phrase);
            if (word == NONE) {
                return false;
            }
            keepAgain(word, word + script.phraseSize[phrase] - 1);
            return true;
        }

        boolean carryPhrase(Script script, int phrase, int target) {
            int place = findPhrase(script, phrase);
            int targetPlace = findPhrase(script, target);
            if (place == NONE || targetPlace == NONE) {
                return false;
            }
            int first = shotOfPlace(place);
            int last = shotOfPlace(place + script.phraseSize[phrase] - 1);
            int behind = shotOfPlace(targetPlace + script.phraseSize[target] - 1);
            if (behind >= first && behind <= last) {
                return false;
            }
            carryShots(first, last, behind);
            return true;
        }
    }

    /** The edits as they were before the latest actions, in a ring. */
    private static final class History {
        private final Edit[] before = new Edit[UNDO_LIMIT];
        private int next;
        int depth;

        History() {
            for (int i = 0; i < UNDO_LIMIT; i++) {
                before[i] = new Edit();
            }
        }

        void record(Edit edit) {
            before[next].copyFrom(edit);
            next = (next + 1) % UNDO_LIMIT;
            depth = Math.min(depth + 1, UNDO_LIMIT);
        }

        void giveBack(Edit edit) {
            if (depth > 0) {
                next = (next + UNDO_LIMIT - 1) % UNDO_LIMIT;
                edit.copyFrom(before[next]);
                depth--;
            }
        }
    }

    /** Commands in the order of the text: those in the blocks of a command directly follow it. */
    private static final class Script {
        static final int CUT_ONE = 0;
        static final int CUT_ALL = 1;
        static final int KEEP = 2;
        static final int CARRY = 3;
        static final int IF = 4;
        static final int REPEAT = 5;

        int size;
        final int[] kind = new int[COMMAND_LIMIT];
        final int[] times = new int[COMMAND_LIMIT];
        // The first command that is not in the first block of an "if".
        final int[] elseStart = new int[COMMAND_LIMIT];
        // The first command that is in no block of the command.
        final int[] next = new int[COMMAND_LIMIT];
        // Command k has the phrases 2 k and 2 k + 1.
        final int[] phraseSize = new int[2 * COMMAND_LIMIT];
        final int[] names = new int[2 * COMMAND_LIMIT * PHRASE_LIMIT];

        int nameAt(int phrase, int index) {
            return names[phrase * PHRASE_LIMIT + index];
        }
    }

    /** Runs the script and tells of the latest run. */
    private static final class Runner {
        Script script = new Script();
        int begun;
        int failures;
        boolean stopped;

        Script exchangeScript(Script newOne) {
            Script old = script;
            script = newOne;
            return old;
        }

        void runAll(Film film) {
            begun = 0;
            failures = 0;
            stopped = false;
            runCommands(film, 0, script.size, 0);
        }

        private void runCommands(Film film, int from, int to, int depth) {
            if (depth > BLOCK_LIMIT) {
                return;
            }
            int command = from;
            for (int n = 0; n < COMMAND_LIMIT && command < to && !stopped; n++) {
                runCommand(film, command, depth);
                command = script.next[command];
            }
        }

        private void runCommand(Film film, int command, int depth) {
            if (begun >= RUN_LIMIT) {
                stopped = true;
                return;
            }
            begun++;
            int phrase = 2 * command;
            boolean works = true;
            switch (script.kind[command]) {
                case Script.CUT_ONE:
                    works = film.cutPhrase(script, phrase, 1);
                    break;
                case Script.CUT_ALL:
                    works = film.cutPhrase(script, phrase, WORD_LIMIT);
                    break;
                case Script.KEEP:
                    works = film.keepPhraseAgain(script, phrase);
                    break;
                case Script.CARRY:
                    works = film.carryPhrase(script, phrase, phrase + 1);
                    break;
                case Script.IF:
                    runIf(film, command, depth);
                    break;
                default:
                    runRepeat(film, command, depth);
                    break;
            }
            if (!works) {
                failures++;
            }
        }

        private void runIf(Film film, int command, int depth) {
            int middle = script.elseStart[command];
            if (film.findPhrase(script, 2 * command) != NONE) {
                runCommands(film, command + 1, middle, depth + 1);
            } else {
                runCommands(film, middle, script.next[command], depth + 1);
            }
        }

        private void runRepeat(Film film, int command, int depth) {
            for (int n = 0; n < script.times[command] && !stopped; n++) {
                runCommands(film, command + 1, script.next[command], depth + 1);
            }
        }
    }

    /** The formatted text. */
    private static final class FormattedText {
        // 40 words with names, colons and brackets, behind three numbers, take some 660 bytes.
        private static final int ROOM = 1000;

        final byte[] bytes = new byte[ROOM];
        int length;

        void writeTranscript(Film film) {
            length = 0;
            for (int shot = 0; shot < film.edit.shotCount; shot++) {
                for (int place = film.shotPlace[shot]; place < film.shotPlace[shot + 1]; place++) {
                    if (place > 0) {
                        putText(place == film.shotPlace[shot] ? " / " : " ");
                    }
                    putName(film.recording.wordText[film.transcript[place]]);
                }
            }
        }

        void writeShot(Film film, int shot) {
            length = 0;
            putText("s");
            putNumber(shot);
            putText(" ");
            putNumber(film.shotFirst[shot]);
            putText("-");
            putNumber(film.shotBehind[shot]);
            Recording recording = film.recording;
            int block = film.edit.order[shot];
            for (int w = recording.blockWord[block]; w < recording.blockWord[block + 1]; w++) {
                putText(" ");
                putName(recording.speakerName[recording.wordSpeaker[w]]);
                putText(film.edit.kept[w] ? ":" : ":[");
                putName(recording.wordText[w]);
                putText(film.edit.kept[w] ? "" : "]");
            }
        }

        private void putByte(int value) {
            if (length < ROOM) {
                bytes[length] = (byte) value;
                length++;
            }
        }

        private void putText(String text) {
            for (int i = 0; i < text.length(); i++) {
                putByte(text.charAt(i));
            }
        }

        private void putName(int name) {
            for (int shift = 5 * (LETTER_LIMIT - 1); shift >= 0; shift -= 5) {
                int letter = name >> shift & 31;
                if (letter != 0) {
                    putByte('a' + letter - 1);
                }
            }
        }

        private void putNumber(int number) {
            int digits = 0;
            int rest = number;
            do {
                digits++;
                rest /= 10;
            } while (rest > 0 && digits < DIGIT_LIMIT);
            int end = Math.min(length + digits, ROOM);
            rest = number;
            for (int at = end - 1; at >= length; at--) {
                bytes[at] = (byte) ('0' + rest % 10);
                rest /= 10;
            }
            length = end;
        }
    }
}
