/** The errors of an input text: in each text a "^" marks the error offset. */
final class TextErrorTest {
    private static final int SYNTAX = TranscriptCutter.SYNTAX;
    private static final int BAD_NUMBER = TranscriptCutter.BAD_NUMBER;
    private static final int BAD_NAME = TranscriptCutter.BAD_NAME;
    private static final int TOO_MANY = TranscriptCutter.TOO_MANY;

    private TextErrorTest() {
    }

    static void run() {
        syntax();
        endsTooEarly();
        badNames();
        badNumbers();
        wordsInTheWay();
        tooMany();
    }

    private static void syntax() {
        Check.wrongText(SYNTAX, "^;");
        Check.wrongText(SYNTAX, " ^lengths 5;");
        Check.wrongText(SYNTAX, "^lengt 5;");
        Check.wrongText(SYNTAX, "^xength 5;");
        Check.wrongText(SYNTAX, "^lengtx 5;");
        Check.wrongText(SYNTAX, "^Length 5;");
        Check.wrongText(SYNTAX, "^5;");
        Check.wrongText(SYNTAX, "^speakera;");
        Check.wrongText(SYNTAX, "length ^x;");
        Check.wrongText(SYNTAX, "length ^-5;");
        Check.wrongText(SYNTAX, "length 5^,");
        Check.wrongText(SYNTAX, "length 5 ^6;");
        Check.wrongText(SYNTAX, "length 5^x;");
        Check.wrongText(SYNTAX, "length 5;^;");
        Check.wrongText(SYNTAX, "length 5;\t\n ^#");
        Check.wrongText(SYNTAX, "length\n\t ^\r5;");
        Check.wrongText(SYNTAX, "handle ^;");
        Check.wrongText(SYNTAX, "handle 5 ^handle 6;");
        Check.wrongText(SYNTAX, "speaker ^7;");
        Check.wrongText(SYNTAX, "speaker ^abcdefg;");
        Check.wrongText(SYNTAX, "speaker a^2;");
        Check.wrongText(SYNTAX, "speaker a ^b;");
        Check.wrongText(SYNTAX, "speaker ^;");
        Check.wrongText(SYNTAX, "speaker a;word ^1 x 1 2;");
        Check.wrongText(SYNTAX, "speaker a;word ^abcdefg x 1 2;");
        Check.wrongText(SYNTAX, "speaker a;word a ^1 2;");
        Check.wrongText(SYNTAX, "speaker a;word a ^abcdefg 1 2;");
        Check.wrongText(SYNTAX, "speaker a;word a x ^y 2;");
        Check.wrongText(SYNTAX, "speaker a;word a x 1 ^;");
        Check.wrongText(SYNTAX, "speaker a;word a x 1^-2;");
        Check.wrongText(SYNTAX, "speaker a;word a x 1 2 ^3;");
        Check.wrongText(SYNTAX, "breath ^a 2;");
        Check.wrongText(SYNTAX, "breath 1 ^a;");
        Check.wrongText(SYNTAX, "breath 1 2 ^a;");
        Check.wrongText(SYNTAX, "length 5;^" + (char) 0);
        Check.wrongText(SYNTAX, "length 5;^" + (char) 0xa0);
        Check.wrongText(SYNTAX, "^`");
        Check.wrongText(SYNTAX, "^{");
    }

    private static void endsTooEarly() {
        Check.wrongText(SYNTAX, "length^");
        Check.wrongText(SYNTAX, "length \n^");
        Check.wrongText(SYNTAX, "length 5^");
        Check.wrongText(SYNTAX, "length 5  ^");
        Check.wrongText(SYNTAX, "speaker^");
        Check.wrongText(SYNTAX, "speaker a^");
        Check.wrongText(SYNTAX, "speaker a;word^");
        Check.wrongText(SYNTAX, "speaker a;word a^");
        Check.wrongText(SYNTAX, "speaker a;word a x^");
        Check.wrongText(SYNTAX, "speaker a;word a x 1^");
        Check.wrongText(SYNTAX, "speaker a;word a x 1 2^");
        Check.wrongText(SYNTAX, "breath ^");
        Check.wrongText(SYNTAX, "breath 1 ^");
        Check.wrongText(SYNTAX, "breath 1 2 ^");
        Check.wrongText(SYNTAX, "handle^");
        // A word of the text is a longest run of letters, and "lengt" is a wrong one.
        Check.wrongText(SYNTAX, "^lengt");
    }

    private static void badNames() {
        Check.wrongText(BAD_NAME, "speaker a;speaker ^a;");
        Check.wrongText(BAD_NAME, "speaker a;speaker b;speaker ^a");
        Check.wrongText(BAD_NAME, "word ^a x 1 2;");
        Check.wrongText(BAD_NAME, "speaker a;word ^b x 1 2;speaker b;");
        Check.wrongText(BAD_NAME, "speaker aa;word ^a x 1 2;");
        Check.wrongText(BAD_NAME, "speaker a;word ^aa x 1 2;");
        Check.wrongText(BAD_NAME, "speaker a;word ^ab");
    }

    private static void badNumbers() {
        Check.wrongText(BAD_NUMBER, "length ^0;");
        Check.wrongText(BAD_NUMBER, "length ^100000;");
        Check.wrongText(BAD_NUMBER, "length ^000001;");
        Check.wrongText(BAD_NUMBER, "length ^00000");
        Check.wrongText(BAD_NUMBER, "length ^99999999999999999999x");
        Check.wrongText(BAD_NUMBER, "handle ^1000;");
        Check.wrongText(BAD_NUMBER, "handle ^000999;");
        Check.wrongText(BAD_NUMBER, "breath ^99999 99999;");
        Check.wrongText(BAD_NUMBER, "breath 5 ^5;");
        Check.wrongText(BAD_NUMBER, "breath 5 ^4;");
        Check.wrongText(BAD_NUMBER, "breath 5 ^100000;");
        Check.wrongText(BAD_NUMBER, "breath ^000005 6;");
        Check.wrongText(BAD_NUMBER, "speaker a;word a x ^99999 99999;");
        Check.wrongText(BAD_NUMBER, "speaker a;word a x ^100000 99999;");
        Check.wrongText(BAD_NUMBER, "speaker a;word a x 7 ^7;");
        Check.wrongText(BAD_NUMBER, "speaker a;word a x 7 ^6");
        Check.wrongText(BAD_NUMBER, "speaker a;word a x 7 ^123456;");
        Check.due("smallest numbers", Check.errorOf("length 1;handle 0;breath 0 1;speaker a;"
                + "word a x 0 1;"), "");
    }

    private static void wordsInTheWay() {
        String said = "speaker a;speaker b;word a x 10 20;word a z 30 40;";
        Check.wrongText(BAD_NUMBER, said + "word a y ^10 11;");
        Check.wrongText(BAD_NUMBER, said + "word a y ^19 25;");
        Check.wrongText(BAD_NUMBER, said + "word a y 9 ^11;");
        Check.wrongText(BAD_NUMBER, said + "word a y 20 ^31;");
        Check.wrongText(BAD_NUMBER, said + "word a y 20 ^20;");
        Check.wrongText(BAD_NUMBER, said + "word a y 5 ^50;");
        Check.wrongText(BAD_NUMBER, said + "word a y ^12 5;");
        Check.due("words that touch", Check.errorOf(said + "word a y 20 30;word a y 9 10;"
                + "word a y 40 41;"), "");
        Check.due("words of another one", Check.errorOf(said + "word b y 10 40;"), "");
        Check.wrongText(BAD_NUMBER, "length 39;" + said + "^");
        Check.wrongText(BAD_NUMBER, "length 39;" + said + " length 40; length 39 ; ^");
        Check.wrongText(BAD_NUMBER, "length 15;speaker a;word a x 10 20;word a z 21 22; breath 1 2;^");
        Check.wrongText(BAD_NUMBER, "speaker a;word a x 1 1001;^");
        // The end of the whole text is not reached.
        Check.wrongText(SYNTAX, "length 39;" + said + " ^.");
        Check.due("up to the length", Check.errorOf("length 40;" + said), "");
        Check.due("a breath may reach beyond", Check.errorOf("length 4;breath 3 9;"), "");
    }

    private static void tooMany() {
        String four = "speaker a;speaker b;speaker c;speaker d;";
        Check.due("four speakers", Check.errorOf(four), "");
        Check.wrongText(TOO_MANY, four + " ^speaker e;");
        Check.wrongText(TOO_MANY, four + "^speaker");
        Check.wrongText(TOO_MANY, four + "^speaker a;");
        Check.wrongText(SYNTAX, four + "^speakers e;");
        String twelve = Check.repeated("breath 1 2;", 12);
        Check.due("twelve breaths", Check.errorOf(twelve), "");
        Check.wrongText(TOO_MANY, twelve + "^breath 1 2;");
        Check.wrongText(TOO_MANY, twelve + "length 5; ^breath x");
        StringBuilder forty = new StringBuilder("speaker a;");
        for (int k = 0; k < 40; k++) {
            forty.append("word a x ").append(2 * k).append(' ').append(2 * k + 1).append(';');
        }
        Check.due("forty words", Check.errorOf(forty.toString()), "");
        Check.wrongText(TOO_MANY, forty + "^word a x 98 99;");
        Check.wrongText(TOO_MANY, forty + "^word q");
        Check.wrongText(SYNTAX, forty + "^words");
    }
}
