import java.util.function.IntFunction;
import java.util.function.Supplier;

/**
 * Objects made alike by the same calls. What is called on one of a pair must make no difference, or
 * only the difference that the document names.
 */
final class Twins {
    /** A call on an object. */
    interface Act {
        int on(TranscriptCutter x);
    }

    /**
     * Four words, 0 a hi 10-20, 1 a so 24-30, 2 b yes 28-34, 3 a bye 60-70; three blocks, 0, 1 2
     * and 3, with the ranges 0-22, 22-41 and 41-100, of which the second one is snapped.
     */
    static final String TALK = "length 100;handle 7;speaker a;speaker b;word a hi 10 20;"
            + "word a so 24 30;word b yes 28 34;word a bye 60 70;breath 38 44;";
    static final int BUSY_BUFFER = 17;

    private Twins() {
    }

    static TranscriptCutter talk() {
        return Check.loaded(TALK);
    }

    /**
     * An object in which everything is other than at first: of its words 1 and 0 are kept, in shots
     * 0 and 1 that play 20-46 and 0-24; 2 is muted, 3 is cut; five actions can be undone.
     */
    static TranscriptCutter busy() {
        TranscriptCutter x = talk();
        Check.run(x, "cut (no);if (bye) {cut (bye);} restore (bye);");
        x.cutWord(2);
        x.move(0, 0, 1);
        x.setHandles(1, 3, 5);
        x.cutWord(3);
        x.formatTranscript();
        Check.fill(x, "cut (");
        Check.thrownBy(x::loadScript);
        Check.fill(x, "length 50;speaker");
        return x;
    }

    /** The call on a busy object is refused and changes nothing. */
    static void refused(String exception, String what, Act call) {
        refused(exception, what, Twins::busy, call);
    }

    static void refused(String exception, String what, Supplier<TranscriptCutter> made, Act call) {
        TranscriptCutter x = made.get();
        TranscriptCutter other = made.get();
        Check.due(what + " throws", Check.thrownBy(() -> call.on(x)), exception);
        same(what + " refused", x, other);
    }

    static void noSuch(String what, Act call) {
        refused("IndexOutOfBoundsException", what, call);
    }

    static void notAllowed(String what, Act call) {
        refused("IllegalArgumentException", what, call);
    }

    static void notNow(String what, Act call) {
        refused("IllegalStateException", what, call);
    }

    /** A call with a number that is 0 to count - 1, on a busy object; all other numbers are refused. */
    static void indexed(String what, int count, IntFunction<Act> calls) {
        for (int index : new int[] {0, count - 1}) {
            TranscriptCutter x = busy();
            Check.due(what + " of " + index + " throws",
                    Check.thrownBy(() -> calls.apply(index).on(x)), Check.NOTHING);
        }
        for (int index : new int[] {-1, count, Integer.MIN_VALUE, Integer.MAX_VALUE}) {
            noSuch(what + " of " + index, calls.apply(index));
        }
        for (int index : new int[] {-1, 0, 1}) {
            refused("IndexOutOfBoundsException", what + " of " + index + " of a new object",
                    TranscriptCutter::new, calls.apply(index));
        }
    }

    /** The call on a busy object answers as due and changes nothing. */
    static void asks(String what, int due, Act call) {
        TranscriptCutter x = busy();
        TranscriptCutter other = busy();
        Check.due(what, call.on(x), due);
        same(what + " asked", x, other);
    }

    /** Both objects answer alike whatever is asked and done; they are used up then. */
    static void same(String what, TranscriptCutter x, TranscriptCutter other) {
        Check.due(what + ": the error", errorOf(x), errorOf(other));
        sameButError(what, x, other);
    }

    static void sameButError(String what, TranscriptCutter x, TranscriptCutter other) {
        Check.due(what + ": all answers", answersOf(x), answersOf(other));
        int length = other.append(0, 0, 0, 0, 0);
        Check.due(what + ": the buffer's length", x.append(0, 0, 0, 0, 0), length);
        x.truncate(length - 20);
        other.truncate(length - 20);
        Check.due(what + ": the script", x.runScript(), other.runScript());
        Check.due(what + ": what it does", Check.state(x), Check.state(other));
        for (int left = other.undoDepth(); left >= 0; left--) {
            Check.due(what + ": undo with " + left + " left", x.undo(), other.undo());
            Check.due(what + ": what it brings back", Check.state(x), Check.state(other));
        }
        Check.due(what + ": load", Check.thrownBy(x::load), Check.thrownBy(other::load));
        Check.due(what + ": the buffer's text", errorOf(x), errorOf(other));
        Check.due(what + ": the text in it", Check.state(x), Check.state(other));
    }

    static String errorOf(TranscriptCutter x) {
        return x.errorKind() + " at " + x.errorOffset();
    }

    /** The answers of all questions but for the error. */
    static String answersOf(TranscriptCutter x) {
        StringBuilder all = new StringBuilder();
        for (int what = 0; what < 6; what++) {
            tell(all, x.count(what));
        }
        int words = x.count(2);
        for (int word = 0; word < words; word++) {
            tellWord(all, x, word);
        }
        int blocks = x.count(3);
        for (int block = 0; block < blocks; block++) {
            for (int what = 0; what < 9; what++) {
                tell(all, x.blockField(block, what));
            }
            tell(all, x.isSnapped(block) ? 1 : 0);
        }
        int speakers = x.count(1);
        for (int speaker = 0; speaker < speakers; speaker++) {
            tell(all, x.speakingTime(speaker));
        }
        tellFilm(all, x);
        int[] rest = {x.differentTexts(), x.filmLength(), x.silence(), x.longestSilence(),
            x.stutters(), x.failed(), x.wasStopped() ? 1 : 0, x.undoDepth()};
        for (int answer : rest) {
            tell(all, answer);
        }
        return all.append('\'').append(Check.formatted(x)).append('\'').toString();
    }

    private static void tellWord(StringBuilder all, TranscriptCutter x, int word) {
        for (int what = 0; what < 6; what++) {
            tell(all, x.wordField(word, what));
        }
        tell(all, x.placeOf(word));
        tell(all, x.startInFilm(word));
        tell(all, x.occurrences(word));
    }

    private static void tellFilm(StringBuilder all, TranscriptCutter x) {
        int shots = x.shots();
        for (int shot = 0; shot < shots; shot++) {
            tell(all, x.blockOf(shot));
            for (int what = 0; what < 3; what++) {
                tell(all, x.shotField(shot, what));
            }
        }
        int clips = x.clips();
        for (int clip = 0; clip < clips; clip++) {
            for (int what = 0; what < 4; what++) {
                tell(all, x.clipField(clip, what));
            }
        }
        int places = x.transcriptSize();
        for (int place = 0; place < places; place++) {
            tell(all, x.transcriptWord(place));
        }
    }

    private static void tell(StringBuilder all, int answer) {
        all.append(answer).append(' ');
    }
}
