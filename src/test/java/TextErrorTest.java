/** The errors of an input text: in each text a "^" marks the error offset. */
final class TextErrorTest {
    private static final int SYNTAX = TranscriptCutter.SYNTAX;
    private static final int BAD_NUMBER = TranscriptCutter.BAD_NUMBER;
    private static final int BAD_NAME = TranscriptCutter.BAD_NAME;
    private static final int TOO_MANY = TranscriptCutter.TOO_MANY;

    private TextErrorTest() {
    }

    static void run() {
        syntax();
        endsTooEarly();
        badNames();
        badNumbers();
        wordsInTheWay();
        tooMany();
    }

    private static void wrong(int kind, String marked) {
        int offset = marked.indexOf('^');
        String text = marked.substring(0, offset) + marked.substring(offset + 1);
        Check.due(text, Check.errorOf(text), kind + " at " + offset);
    }

    private static void syntax() {
        wrong(SYNTAX, "^;");
        wrong(SYNTAX, " ^lengths 5;");
        wrong(SYNTAX, "^lengt 5;");
        wrong(SYNTAX, "^xength 5;");
        wrong(SYNTAX, "^lengtx 5;");
        wrong(SYNTAX, "^Length 5;");
        wrong(SYNTAX, "^5;");
        wrong(SYNTAX, "^speakera;");
        wrong(SYNTAX, "length ^x;");
        wrong(SYNTAX, "length ^-5;");
        wrong(SYNTAX, "length 5^,");
        wrong(SYNTAX, "length 5 ^6;");
        wrong(SYNTAX, "length 5^x;");
        wrong(SYNTAX, "length 5;^;");
        wrong(SYNTAX, "length 5;\t\n ^#");
        wrong(SYNTAX, "length\n\t ^\r5;");
        wrong(SYNTAX, "handle ^;");
        wrong(SYNTAX, "handle 5 ^handle 6;");
        wrong(SYNTAX, "speaker ^7;");
        wrong(SYNTAX, "speaker ^abcdefg;");
        wrong(SYNTAX, "speaker a^2;");
        wrong(SYNTAX, "speaker a ^b;");
        wrong(SYNTAX, "speaker ^;");
        wrong(SYNTAX, "speaker a;word ^1 x 1 2;");
        wrong(SYNTAX, "speaker a;word ^abcdefg x 1 2;");
        wrong(SYNTAX, "speaker a;word a ^1 2;");
        wrong(SYNTAX, "speaker a;word a ^abcdefg 1 2;");
        wrong(SYNTAX, "speaker a;word a x ^y 2;");
        wrong(SYNTAX, "speaker a;word a x 1 ^;");
        wrong(SYNTAX, "speaker a;word a x 1^-2;");
        wrong(SYNTAX, "speaker a;word a x 1 2 ^3;");
        wrong(SYNTAX, "breath ^a 2;");
        wrong(SYNTAX, "breath 1 ^a;");
        wrong(SYNTAX, "breath 1 2 ^a;");
        wrong(SYNTAX, "length 5;^" + (char) 0);
        wrong(SYNTAX, "length 5;^" + (char) 0xa0);
        wrong(SYNTAX, "^`");
        wrong(SYNTAX, "^{");
    }

    private static void endsTooEarly() {
        wrong(SYNTAX, "length^");
        wrong(SYNTAX, "length \n^");
        wrong(SYNTAX, "length 5^");
        wrong(SYNTAX, "length 5  ^");
        wrong(SYNTAX, "speaker^");
        wrong(SYNTAX, "speaker a^");
        wrong(SYNTAX, "speaker a;word^");
        wrong(SYNTAX, "speaker a;word a^");
        wrong(SYNTAX, "speaker a;word a x^");
        wrong(SYNTAX, "speaker a;word a x 1^");
        wrong(SYNTAX, "speaker a;word a x 1 2^");
        wrong(SYNTAX, "breath ^");
        wrong(SYNTAX, "breath 1 ^");
        wrong(SYNTAX, "breath 1 2 ^");
        wrong(SYNTAX, "handle^");
        // A word of the text is a longest run of letters, and "lengt" is a wrong one.
        wrong(SYNTAX, "^lengt");
    }

    private static void badNames() {
        wrong(BAD_NAME, "speaker a;speaker ^a;");
        wrong(BAD_NAME, "speaker a;speaker b;speaker ^a");
        wrong(BAD_NAME, "word ^a x 1 2;");
        wrong(BAD_NAME, "speaker a;word ^b x 1 2;speaker b;");
        wrong(BAD_NAME, "speaker aa;word ^a x 1 2;");
        wrong(BAD_NAME, "speaker a;word ^aa x 1 2;");
        wrong(BAD_NAME, "speaker a;word ^ab");
    }

    private static void badNumbers() {
        wrong(BAD_NUMBER, "length ^0;");
        wrong(BAD_NUMBER, "length ^100000;");
        wrong(BAD_NUMBER, "length ^000001;");
        wrong(BAD_NUMBER, "length ^00000");
        wrong(BAD_NUMBER, "length ^99999999999999999999x");
        wrong(BAD_NUMBER, "handle ^1000;");
        wrong(BAD_NUMBER, "handle ^000999;");
        wrong(BAD_NUMBER, "breath ^99999 99999;");
        wrong(BAD_NUMBER, "breath 5 ^5;");
        wrong(BAD_NUMBER, "breath 5 ^4;");
        wrong(BAD_NUMBER, "breath 5 ^100000;");
        wrong(BAD_NUMBER, "breath ^000005 6;");
        wrong(BAD_NUMBER, "speaker a;word a x ^99999 99999;");
        wrong(BAD_NUMBER, "speaker a;word a x ^100000 99999;");
        wrong(BAD_NUMBER, "speaker a;word a x 7 ^7;");
        wrong(BAD_NUMBER, "speaker a;word a x 7 ^6");
        wrong(BAD_NUMBER, "speaker a;word a x 7 ^123456;");
        Check.due("smallest numbers", Check.errorOf("length 1;handle 0;breath 0 1;speaker a;"
                + "word a x 0 1;"), "");
    }

    private static void wordsInTheWay() {
        String said = "speaker a;speaker b;word a x 10 20;word a z 30 40;";
        wrong(BAD_NUMBER, said + "word a y ^10 11;");
        wrong(BAD_NUMBER, said + "word a y ^19 25;");
        wrong(BAD_NUMBER, said + "word a y 9 ^11;");
        wrong(BAD_NUMBER, said + "word a y 20 ^31;");
        wrong(BAD_NUMBER, said + "word a y 20 ^20;");
        wrong(BAD_NUMBER, said + "word a y 5 ^50;");
        wrong(BAD_NUMBER, said + "word a y ^12 5;");
        Check.due("words that touch", Check.errorOf(said + "word a y 20 30;word a y 9 10;"
                + "word a y 40 41;"), "");
        Check.due("words of another one", Check.errorOf(said + "word b y 10 40;"), "");
        wrong(BAD_NUMBER, "length 39;" + said + "^");
        wrong(BAD_NUMBER, "length 39;" + said + " length 40; length 39 ; ^");
        wrong(BAD_NUMBER, "length 15;speaker a;word a x 10 20;word a z 21 22; breath 1 2;^");
        wrong(BAD_NUMBER, "speaker a;word a x 1 1001;^");
        // The end of the whole text is not reached.
        wrong(SYNTAX, "length 39;" + said + " ^.");
        Check.due("up to the length", Check.errorOf("length 40;" + said), "");
        Check.due("a breath may reach beyond", Check.errorOf("length 4;breath 3 9;"), "");
    }

    private static void tooMany() {
        String four = "speaker a;speaker b;speaker c;speaker d;";
        Check.due("four speakers", Check.errorOf(four), "");
        wrong(TOO_MANY, four + " ^speaker e;");
        wrong(TOO_MANY, four + "^speaker");
        wrong(TOO_MANY, four + "^speaker a;");
        wrong(SYNTAX, four + "^speakers e;");
        String twelve = Check.repeated("breath 1 2;", 12);
        Check.due("twelve breaths", Check.errorOf(twelve), "");
        wrong(TOO_MANY, twelve + "^breath 1 2;");
        wrong(TOO_MANY, twelve + "length 5; ^breath x");
        StringBuilder forty = new StringBuilder("speaker a;");
        for (int k = 0; k < 40; k++) {
            forty.append("word a x ").append(2 * k).append(' ').append(2 * k + 1).append(';');
        }
        Check.due("forty words", Check.errorOf(forty.toString()), "");
        wrong(TOO_MANY, forty + "^word a x 98 99;");
        wrong(TOO_MANY, forty + "^word q");
        wrong(SYNTAX, forty + "^words");
    }
}
