/** The edges of the description: the recording, the input text, and the errors in it. */
final class TextEdges {
    private static final int SYNTAX = TranscriptCutter.SYNTAX;
    private static final int BAD_NUMBER = TranscriptCutter.BAD_NUMBER;
    private static final int BAD_NAME = TranscriptCutter.BAD_NAME;
    private static final int TOO_MANY = TranscriptCutter.TOO_MANY;
    private static final String FOUR = "speaker a;speaker b;speaker c;speaker d;";
    private static final String SAID = "speaker a;speaker b;word a x 10 20;word a z 30 40;";

    private TextEdges() {
    }

    /** A text with so many words, word k from 2 k to 2 k + 1. */
    static String words(int count) {
        StringBuilder text = new StringBuilder("speaker a;");
        for (int k = 0; k < count; k++) {
            text.append("word a x ").append(2 * k).append(' ').append(2 * k + 1).append(';');
        }
        return text.toString();
    }

    private static TranscriptCutter loaded(String text) {
        return Check.loaded(text);
    }

    // ---- the recording

    @Says("at most 4 speakers, at most 40 words and at most 12 breaths")
    static void recording_fourSpeakers() {
        Check.due("four speakers", loaded(FOUR).count(1), 4);
        Check.wrongText(TOO_MANY, FOUR + "^speaker e;");
    }

    @Says("at most 4 speakers, at most 40 words and at most 12 breaths")
    static void recording_fortyWords() {
        Check.due("forty words", loaded(words(40)).count(2), 40);
        Check.wrongText(TOO_MANY, words(40) + "^word a x 90 91;");
    }

    @Says("at most 4 speakers, at most 40 words and at most 12 breaths")
    static void recording_twelveBreaths() {
        String twelve = "breath 1 2;".repeat(12);
        Check.due("twelve breaths", loaded(twelve).count(4), 12);
        Check.wrongText(TOO_MANY, twelve + "^breath 1 2;");
    }

    @Says("Speakers are numbered from 0 in the order of the input text.")
    static void recording_firstAndLastSpeaker() {
        TranscriptCutter x = loaded("speaker d;speaker c;speaker b;speaker a;"
                + "word a x 1 2;word d x 3 4;");
        Check.due("the last one", x.wordField(0, 0), 3);
        Check.due("the first one", x.wordField(1, 0), 0);
    }

    @Says("it is spoken in all frames from its start to its end - 1")
    static void recording_firstAndLastFrameOfAWord() {
        TranscriptCutter x = loaded("speaker a;word a x 10 20;");
        Check.due("before its start", x.speakersAt(9), 0);
        Check.due("its start", x.speakersAt(10), 1);
        Check.due("its end - 1", x.speakersAt(19), 1);
        Check.due("its end", x.speakersAt(20), 0);
        TranscriptCutter y = loaded("speaker a;word a x 0 1;");
        Check.due("a word of one frame", y.speakersAt(0), 1);
        Check.due("behind it", y.speakersAt(1), 0);
    }

    @Says("in the order of their starts, and those with the same start in the order of their speakers")
    static void recording_sameStart() {
        TranscriptCutter x = loaded(FOUR + "word d x 5 6;word b x 5 7;word c x 5 8;word a x 5 9;"
                + "word a x 4 5;");
        int[] speakers = {0, 0, 1, 2, 3};
        int[] ends = {5, 9, 7, 8, 6};
        for (int word = 0; word < 5; word++) {
            Check.due("speaker of " + word, x.wordField(word, 0), speakers[word]);
            Check.due("end of " + word, x.wordField(word, 2), ends[word]);
        }
    }

    @Says("in the order of their starts")
    static void recording_startsBackwards() {
        StringBuilder text = new StringBuilder("speaker a;");
        for (int k = 39; k >= 0; k--) {
            text.append("word a ").append(k % 2 == 0 ? 'x' : 'y').append(' ').append(2 * k)
                    .append(' ').append(2 * k + 1).append(';');
        }
        TranscriptCutter x = loaded(text.toString());
        for (int word = 0; word < 40; word++) {
            Check.due("start of " + word, x.wordField(word, 1), 2 * word);
            Check.due("end of " + word, x.wordField(word, 2), 2 * word + 1);
            Check.due("text of " + word, x.isSameText(word, 0), word % 2 == 0);
        }
    }

    @Says("No two words of one speaker share a frame.")
    static void recording_wordsOfOneSpeakerMayTouch() {
        Check.rightText(SAID + "word a y 20 30;word a y 9 10;word a y 40 41;");
        Check.wrongText(BAD_NUMBER, SAID + "word a y ^19 30;");
        Check.wrongText(BAD_NUMBER, SAID + "word a y 20 ^31;");
        Check.rightText(SAID + "word b y 10 40;");
    }

    // ---- the input text

    @Says("The text has at most 900 bytes.")
    static void inputText_900Bytes() {
        String line = "speaker a;word a zzzzzz 998 999;";
        String text = " ".repeat(900 - line.length()) + line;
        TranscriptCutter x = loaded(text);
        Check.due("its last line", x.wordField(0, 2), 999);
        Check.wrongText(SYNTAX, text.substring(0, 899) + "^#");
        Check.wrongText(BAD_NUMBER, "length 900;" + " ".repeat(850) + "speaker a;word a x 899 901;^");
    }

    @Says("text = { line \";\" }.")
    static void inputText_noLine() {
        Check.rightText("");
        Check.rightText(" \t\n");
        Check.wrongText(SYNTAX, "^;");
        Check.wrongText(SYNTAX, "length 5;^;");
        Check.wrongText(SYNTAX, "length 5^");
    }

    @Says("line = \"length\" number | \"speaker\" name | \"word\" name name number number | "
            + "\"breath\" number number | \"handle\" number.")
    static void inputText_lineWithTooLittleOrTooMuch() {
        String[] lines = {"length 5", "handle 5", "speaker b", "word a x 1 2", "breath 1 2"};
        for (String line : lines) {
            Check.rightText("speaker a;" + line + ";");
            for (int space = line.indexOf(' '); space > 0; space = line.indexOf(' ', space + 1)) {
                Check.wrongText(SYNTAX, "speaker a;" + line.substring(0, space) + "^;");
            }
            for (String more : new String[] {"7", "x", line, "^"}) {
                Check.wrongText(SYNTAX, "speaker a;" + line + " ^" + more + ";");
            }
        }
    }

    @Says("a longest run of letters a to z")
    static void inputText_lettersAToZ() {
        Check.rightText("speaker az;word az za 1 2;");
        for (char near : new char[] {'a' - 1, 'z' + 1, 'A', 'Z', 'a' + 128}) {
            Check.wrongText(SYNTAX, "speaker a^" + near + ";");
            Check.wrongText(SYNTAX, "speaker ^" + near + "a;");
        }
    }

    @Says("a longest run of letters a to z")
    static void inputText_longestRun() {
        Check.wrongText(SYNTAX, "^speakera;");
        Check.wrongText(SYNTAX, "speaker a;^worda x 1 2;");
        Check.wrongText(BAD_NAME, "speaker a;word ^ax 1 2;");
        Check.rightText("speaker\na;word a x1 2;length5;");
    }

    @Says("a name is such a token of 1 to 6 letters")
    static void inputText_nameOfOneSixAndSevenLetters() {
        Check.rightText("speaker a;word a b 1 2;");
        Check.rightText("speaker abcdef;word abcdef uvwxyz 1 2;");
        Check.wrongText(SYNTAX, "speaker ^abcdefg;");
        Check.wrongText(SYNTAX, "speaker abcdef;word ^abcdefg x 1 2;");
        Check.wrongText(SYNTAX, "speaker a;word a ^uvwxyza 1 2;");
        Check.wrongText(SYNTAX, "speaker ^;");
    }

    @Says("a keyword can be a name, too")
    static void inputText_keywordsAsNames() {
        Check.rightText("speaker length;speaker word;speaker breath;speaker handle;"
                + "word length word 1 2;word word word 1 2;word breath breath 1 2;");
        Check.wrongText(SYNTAX, "speaker ^speaker;");
    }

    @Says("A number is a longest run of digits; it has 1 to 5 digits.")
    static void inputText_numberOfOneFiveAndSixDigits() {
        Check.due("one digit", loaded("length 7;").count(0), 7);
        Check.due("five digits", loaded("length 00007;").count(0), 7);
        Check.wrongText(BAD_NUMBER, "length ^000007;");
        Check.wrongText(SYNTAX, "length ^;");
        Check.wrongText(SYNTAX, "length 7 ^8;");
        Check.wrongText(BAD_NUMBER, "length ^4294967297;");
        Check.wrongText(BAD_NUMBER, "length ^" + "0".repeat(892) + ";");
    }

    @Says("A number is a longest run of digits")
    static void inputText_digits0To9() {
        Check.due("all digits", loaded("length 12345;handle 678;").count(0), 12345);
        Check.due("all digits", loaded("length 90;handle 678;").count(5), 678);
        for (char near : new char[] {'0' - 1, '9' + 1, '0' + 128}) {
            Check.wrongText(SYNTAX, "length 5^" + near + ";");
            Check.wrongText(SYNTAX, "length ^" + near + "5;");
        }
    }

    @Says("Spaces, tabs and line feeds (bytes 32, 9 and 10) may stand before the first token, "
            + "number or sign, between any two of them, and behind the last one.")
    static void inputText_blanksAnywhere() {
        for (String blank : new String[] {" ", "\t", "\n", " \n\t "}) {
            TranscriptCutter x = loaded((" speaker a ; word a x 1 2 ; length 5 ; breath 1 2 ; "
                    + "handle 3 ; ").replace(" ", blank));
            Check.due("word", x.wordField(0, 2), 2);
            Check.due("length", x.count(0), 5);
            Check.due("handle", x.count(5), 3);
        }
    }

    @Says("Spaces, tabs and line feeds (bytes 32, 9 and 10) may stand before the first token, "
            + "number or sign, between any two of them, and behind the last one.")
    static void inputText_noOtherBlank() {
        for (int k = 0; k < 256; k++) {
            char sign = (char) k;
            if (k == 32 || k == 9 || k == 10) {
                Check.rightText(sign + "length" + sign + "5" + sign + ";" + sign);
                continue;
            }
            Check.wrongText(SYNTAX, "^" + sign + "length 5;");
            Check.wrongText(SYNTAX, "length 5;^" + sign);
            if (k < '0' || k > 'z' || k > '9' && k < 'a') {
                Check.wrongText(SYNTAX, "length^" + sign + "5;");
            }
        }
    }

    @Says("\"length\" sets the length (1 to 99999; 1000 without it)")
    static void inputText_smallestAndGreatestLength() {
        Check.due("without it", loaded("handle 5;").count(0), 1000);
        Check.due("smallest", loaded("length 1;").count(0), 1);
        Check.due("greatest", loaded("length 99999;").count(0), 99999);
        Check.wrongText(BAD_NUMBER, "length ^0;");
        Check.wrongText(BAD_NUMBER, "length ^100000;");
    }

    @Says("\"handle\" the handle length (0 to 999; 12 without it)")
    static void inputText_smallestAndGreatestHandle() {
        Check.due("without it", loaded("length 5;").count(5), 12);
        Check.due("smallest", loaded("handle 0;").count(5), 0);
        Check.due("greatest", loaded("handle 999;").count(5), 999);
        Check.wrongText(BAD_NUMBER, "handle ^1000;");
    }

    @Says("of several such lines the last one counts")
    static void inputText_lastLineCounts() {
        TranscriptCutter x = loaded("length 9;handle 8;length 99999;length 7;handle 0;handle 6;");
        Check.due("length", x.count(0), 7);
        Check.due("handle", x.count(5), 6);
        Check.wrongText(BAD_NUMBER, "length 9;length ^0;length 9;");
    }

    @Says("\"speaker\" adds a speaker; names of speakers must be different")
    static void inputText_namesOfSpeakersDiffer() {
        Check.rightText("speaker a;speaker aa;speaker b;speaker ab;");
        Check.wrongText(BAD_NAME, "speaker a;speaker b;speaker ^a;");
        Check.wrongText(BAD_NAME, "speaker a;speaker b;speaker c;speaker ^c;");
        Check.wrongText(BAD_NAME, "speaker abcdef;speaker ^abcdef;");
    }

    @Says("\"word\" adds a word of a speaker of an earlier line")
    static void inputText_speakerOfAnEarlierLine() {
        Check.wrongText(BAD_NAME, "word ^a x 1 2;speaker a;");
        Check.wrongText(BAD_NAME, "speaker a;word ^b x 1 2;speaker b;");
        Check.rightText("speaker b;speaker a;word b x 1 2;");
    }

    @Says("its start (0 to 99998) and its end (its start + 1 to 99999)")
    static void inputText_startOfAWord() {
        Check.due("smallest", loaded("speaker a;word a x 0 9;").wordField(0, 1), 0);
        Check.due("greatest", loaded("length 99999;speaker a;word a x 99998 99999;").wordField(0, 1),
                99998);
        Check.wrongText(BAD_NUMBER, "length 99999;speaker a;word a x ^99999 99999;");
        Check.wrongText(BAD_NUMBER, "speaker a;word a x ^100000 100001;");
        Check.wrongText(SYNTAX, "speaker a;word a x ^-1 5;");
    }

    @Says("its start (0 to 99998) and its end (its start + 1 to 99999)")
    static void inputText_endOfAWord() {
        Check.due("smallest", loaded("speaker a;word a x 7 8;").wordField(0, 2), 8);
        Check.due("greatest", loaded("length 99999;speaker a;word a x 7 99999;").wordField(0, 2),
                99999);
        Check.wrongText(BAD_NUMBER, "speaker a;word a x 7 ^7;");
        Check.wrongText(BAD_NUMBER, "speaker a;word a x 7 ^6;");
        Check.wrongText(BAD_NUMBER, "speaker a;word a x 7 ^0;");
        Check.wrongText(BAD_NUMBER, "speaker a;word a x 0 ^0;");
        Check.wrongText(BAD_NUMBER, "length 99999;speaker a;word a x 7 ^100000;");
    }

    @Says("\"breath\" adds a breath with its start (0 to 99998) and its end (its start + 1 to 99999)")
    static void inputText_startAndEndOfABreath() {
        Check.rightText("breath 0 1;breath 0 99999;breath 99998 99999;");
        Check.wrongText(BAD_NUMBER, "breath ^99999 99999;");
        Check.wrongText(BAD_NUMBER, "breath ^100000 5;");
        Check.wrongText(BAD_NUMBER, "breath 7 ^7;");
        Check.wrongText(BAD_NUMBER, "breath 7 ^6;");
        Check.wrongText(BAD_NUMBER, "breath 99998 ^99998;");
        Check.wrongText(BAD_NUMBER, "breath 7 ^100000;");
    }

    @Says("\"breath\" adds a breath")
    static void inputText_breathsMayShareFramesAndReachBeyond() {
        Check.due("beyond the length", loaded("length 5;breath 4 6;breath 10 20;").count(4), 2);
        Check.due("the same one twice", loaded("breath 4 6;breath 4 6;breath 5 9;").count(4), 3);
    }

    @Says("Behind the whole text, a word that reaches beyond the length is a BAD_NUMBER at the end "
            + "of the text (its length).")
    static void inputText_wordUpToTheLength() {
        Check.rightText("length 40;" + SAID);
        Check.wrongText(BAD_NUMBER, "length 39;" + SAID + "^");
        Check.rightText("speaker a;word a x 1 1000;");
        Check.wrongText(BAD_NUMBER, "speaker a;word a x 1 1001;^");
        Check.wrongText(BAD_NUMBER, "length 1;speaker a;word a x 1 2;^");
        Check.rightText("length 1;speaker a;word a x 0 1;");
    }

    @Says("Behind the whole text, a word that reaches beyond the length is a BAD_NUMBER at the end "
            + "of the text (its length).")
    static void inputText_wordBeyondBehindTheWholeText() {
        Check.rightText("length 39;" + SAID + "length 40;");
        Check.wrongText(BAD_NUMBER, "length 40;" + SAID + "length 39;^");
        Check.wrongText(BAD_NUMBER, "length 39;" + SAID + " \n\t^");
        Check.wrongText(BAD_NUMBER, "length 19;" + SAID + "word b y 1 2;^");
        Check.wrongText(SYNTAX, "length 39;" + SAID + "^#");
        Check.wrongText(SYNTAX, "length 39;" + SAID + "length 40^");
        Check.wrongText(BAD_NAME, "length 39;" + SAID + "speaker ^a;");
    }

    // ---- errors

    @Says("The error offset is the offset of the first byte at which no correct text can go on")
    static void errors_firstWrongByte() {
        Check.wrongText(SYNTAX, "^#");
        Check.wrongText(SYNTAX, "length 5^#6#");
        Check.wrongText(SYNTAX, "length 5; ^! length 6;!");
        Check.wrongText(BAD_NUMBER, "length ^0;length 0;#");
        Check.wrongText(BAD_NAME, "speaker a;speaker ^a#");
    }

    @Says("a wrong token or number counts at its first byte")
    static void errors_wrongTokenOrNumber() {
        Check.wrongText(SYNTAX, "^lengthy 5;");
        Check.wrongText(SYNTAX, "^lengt 5;");
        Check.wrongText(SYNTAX, "^lengt");
        Check.wrongText(SYNTAX, "^mength 5;");
        Check.wrongText(SYNTAX, "^lengti 5;");
        Check.wrongText(SYNTAX, "^7;");
        Check.wrongText(SYNTAX, "length ^abc;");
        Check.wrongText(SYNTAX, "speaker ^12;");
        Check.wrongText(SYNTAX, "speaker ^abcdefgh;");
        Check.wrongText(BAD_NUMBER, "handle ^1000");
        Check.wrongText(BAD_NUMBER, "handle ^9999999");
        Check.wrongText(BAD_NAME, "speaker ab;speaker ^ab");
    }

    @Says("if the text ends too early, it is the length of the text")
    static void errors_textEndsTooEarly() {
        String[] lines = {"length 5;", "handle 5;", "speaker a;", "word s x 1 2;", "breath 1 2;"};
        for (String line : lines) {
            String text = "speaker s;" + line;
            for (int end = 11; end < text.length(); end++) {
                boolean between = !Character.isLetterOrDigit(text.charAt(end))
                        || !Character.isLetterOrDigit(text.charAt(end - 1));
                if (between) {
                    Check.wrongText(SYNTAX, text.substring(0, end) + "^");
                    Check.wrongText(SYNTAX, text.substring(0, end) + " \t\n^");
                }
            }
        }
    }

    @Says("TOO_MANY: a 5th speaker, a 41st word or a 13th breath, at the first token of the line")
    static void errors_fifthSpeaker() {
        Check.wrongText(TOO_MANY, FOUR + " ^speaker e;");
        Check.wrongText(TOO_MANY, FOUR + "^speaker a;");
        Check.wrongText(TOO_MANY, FOUR + "^speaker");
        Check.wrongText(TOO_MANY, FOUR + "^speaker 7");
        Check.wrongText(SYNTAX, FOUR + "^speakers e;");
    }

    @Says("TOO_MANY: a 5th speaker, a 41st word or a 13th breath, at the first token of the line")
    static void errors_fortyFirstWord() {
        Check.wrongText(TOO_MANY, words(40) + " ^word a x 0 1;");
        Check.wrongText(TOO_MANY, words(40) + "^word z");
        Check.wrongText(TOO_MANY, words(40) + "^word");
        Check.wrongText(BAD_NUMBER, words(39) + "word a x ^0 1;word a x 90 91;");
    }

    @Says("TOO_MANY: a 5th speaker, a 41st word or a 13th breath, at the first token of the line")
    static void errors_thirteenthBreath() {
        String twelve = "breath 1 2;".repeat(12);
        Check.wrongText(TOO_MANY, twelve + " ^breath 5 4;");
        Check.wrongText(TOO_MANY, twelve + "length 5;^breath");
        Check.wrongText(SYNTAX, twelve + "^breaths 1 2;");
    }

    @Says("BAD_NAME: a name of a speaker that is used already, or, in a \"word\" line, "
            + "one that is not that of a speaker.")
    static void errors_badName() {
        Check.wrongText(BAD_NAME, "speaker a;speaker ^a;");
        Check.wrongText(BAD_NAME, "word ^a x 1 2;");
        Check.wrongText(BAD_NAME, "speaker a;word ^aa 1;");
        Check.wrongText(BAD_NAME, "speaker aa;word ^a");
        Check.rightText("speaker a;word a a 1 2;");
    }

    @Says("BAD_NUMBER: a number with more than 5 digits or out of its range")
    static void errors_badNumber() {
        Check.wrongText(BAD_NUMBER, "handle ^000000;");
        Check.wrongText(BAD_NUMBER, "handle ^1000;");
        Check.wrongText(BAD_NUMBER, "breath ^000001 2;");
        Check.wrongText(BAD_NUMBER, "breath 1 ^000002;");
        Check.wrongText(BAD_NUMBER, "speaker a;word a x ^000001 2;");
        Check.wrongText(BAD_NUMBER, "speaker a;word a x 1 ^000002;");
    }

    @Says("the start of a word if the speaker has a word that is spoken in this frame")
    static void errors_startWhereTheSpeakerSpeaks() {
        Check.rightText(SAID + "word a y 9 10;");
        Check.wrongText(BAD_NUMBER, SAID + "word a y ^10 11;");
        Check.wrongText(BAD_NUMBER, SAID + "word a y ^19 20;");
        Check.rightText(SAID + "word a y 20 21;");
        Check.wrongText(BAD_NUMBER, SAID + "word a y ^39 5;");
        Check.wrongText(BAD_NUMBER, SAID + "word a y ^30 x");
        Check.rightText(SAID + "word b y 10 11;word b y 19 20;");
    }

    @Says("the end of a word if the speaker has another word that is spoken between")
    static void errors_endBehindAnotherWord() {
        Check.wrongText(BAD_NUMBER, SAID + "word a y 9 ^11;");
        Check.wrongText(BAD_NUMBER, SAID + "word a y 9 ^20;");
        Check.wrongText(BAD_NUMBER, SAID + "word a y 9 ^21;");
        Check.wrongText(BAD_NUMBER, SAID + "word a y 0 ^99999;");
        Check.rightText(SAID + "word a y 20 30;");
        Check.wrongText(BAD_NUMBER, SAID + "word a y 20 ^31;");
        Check.wrongText(BAD_NUMBER, SAID + "word a y 29 ^31;");
        Check.rightText(SAID + "word b y 9 41;");
    }

    @Says("SYNTAX: everything else.")
    static void errors_everythingElse() {
        Check.wrongText(SYNTAX, "length 5 ^length 6;");
        Check.wrongText(SYNTAX, "speaker a ^b;");
        Check.wrongText(SYNTAX, "speaker a;word a ^5 1 2;");
        Check.wrongText(SYNTAX, "speaker a;word a x ^y;");
        Check.wrongText(SYNTAX, "breath 1 2 ^3;");
        Check.wrongText(SYNTAX, "breath 1 ^;");
        Check.wrongText(SYNTAX, "^cut (a);");
    }
}
