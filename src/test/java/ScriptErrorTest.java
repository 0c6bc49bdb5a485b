/** The errors of a script text: in each script a "^" marks the error offset. */
final class ScriptErrorTest {
    private static final int SYNTAX = TranscriptCutter.SYNTAX;
    private static final int BAD_NUMBER = TranscriptCutter.BAD_NUMBER;
    private static final int TOO_MANY = TranscriptCutter.TOO_MANY;

    private ScriptErrorTest() {
    }

    static void run() {
        syntax();
        endsTooEarly();
        repeats();
        phrases();
        commands();
        blocks();
    }

    private static void wrong(int kind, String marked) {
        int offset = marked.indexOf('^');
        String script = marked.substring(0, offset) + marked.substring(offset + 1);
        Check.due(script, Check.scriptErrorOf(script), kind + " at " + offset);
    }

    private static void syntax() {
        wrong(SYNTAX, "^;");
        wrong(SYNTAX, "^}");
        wrong(SYNTAX, "^{}");
        wrong(SYNTAX, "^else {}");
        wrong(SYNTAX, "^behind (a);");
        wrong(SYNTAX, "^cuts (a);");
        wrong(SYNTAX, "^but (a);");
        wrong(SYNTAX, "^cat (a);");
        wrong(SYNTAX, "^Cut (a);");
        wrong(SYNTAX, "^7");
        wrong(SYNTAX, "cut ^a;");
        wrong(SYNTAX, "cut (^);");
        wrong(SYNTAX, "cut (a^;");
        wrong(SYNTAX, "cut (a)^}");
        wrong(SYNTAX, "cut (a) ^cut (a);");
        wrong(SYNTAX, "cut (a ^1);");
        wrong(SYNTAX, "cut (^abcdefg);");
        wrong(SYNTAX, "cut (a)^(b);");
        wrong(SYNTAX, "cut (a);^;");
        wrong(SYNTAX, "cut (a^,b);");
        wrong(SYNTAX, "clean (a)^{}");
        wrong(SYNTAX, "restore ^{}");
        wrong(SYNTAX, "move (a)^;");
        wrong(SYNTAX, "move (a) ^(b);");
        wrong(SYNTAX, "move (a) ^before (b);");
        wrong(SYNTAX, "move (a) behind ^b;");
        wrong(SYNTAX, "move (a) behind (b) ^{");
        wrong(SYNTAX, "if ^{}");
        wrong(SYNTAX, "if (a) ^;");
        wrong(SYNTAX, "if (a) ^else {}");
        wrong(SYNTAX, "if (a) {} else ^;");
        wrong(SYNTAX, "if (a) {} else {} ^else {}");
        wrong(SYNTAX, "if (a) {}^;");
        wrong(SYNTAX, "if (a) {^;}");
        wrong(SYNTAX, "if (a) {^{}}");
        wrong(SYNTAX, "repeat 2 {} ^else {}");
        wrong(SYNTAX, "repeat 2 {cut (a)^}");
        wrong(SYNTAX, "repeat 2 {cut (a);}^}");
        wrong(SYNTAX, "repeat 2 ^cut (a);");
        wrong(SYNTAX, "cut (a);^" + (char) 255);
    }

    private static void endsTooEarly() {
        wrong(SYNTAX, "cut^");
        wrong(SYNTAX, "cut (^");
        wrong(SYNTAX, "cut (a ^");
        wrong(SYNTAX, "cut (a)^");
        wrong(SYNTAX, "move (a)\n^");
        wrong(SYNTAX, "move (a) behind^");
        wrong(SYNTAX, "if^");
        wrong(SYNTAX, "if (a)^");
        wrong(SYNTAX, "if (a) {^");
        wrong(SYNTAX, "if (a) {} else^");
        wrong(SYNTAX, "if (a) {} else { ^");
        wrong(SYNTAX, "repeat^");
        wrong(SYNTAX, "repeat 2^");
        wrong(SYNTAX, "repeat 2 {cut (a);^");
        wrong(SYNTAX, "^cu");
    }

    private static void repeats() {
        wrong(SYNTAX, "repeat ^{}");
        wrong(SYNTAX, "repeat ^x {}");
        wrong(BAD_NUMBER, "repeat ^0 {}");
        wrong(BAD_NUMBER, "repeat ^10 {}");
        wrong(BAD_NUMBER, "repeat ^000001 {}");
        wrong(BAD_NUMBER, "repeat ^99999");
        wrong(SYNTAX, "repeat 1 ^1 {}");
        Check.due("repeat 1 and 9", Check.scriptErrorOf("repeat 1{}repeat9{}repeat 00009 {}"), "");
    }

    private static void phrases() {
        wrong(TOO_MANY, "cut (a b c d e f ^g);");
        wrong(TOO_MANY, "cut (a b c d e f ^abcdef");
        wrong(SYNTAX, "cut (a b c d e f ^abcdefg);");
        wrong(SYNTAX, "cut (a b c d e f ^1);");
        wrong(SYNTAX, "cut (a b c d e f^;");
        wrong(SYNTAX, "cut (a b c d e f^");
        wrong(TOO_MANY, "move (a) behind (a b c d e f ^g);");
        wrong(TOO_MANY, "if (a b c d e f ^g) {}");
    }

    private static void commands() {
        String thirty = Check.repeated("cut(a);", 30);
        wrong(TOO_MANY, thirty + " ^cut(a);");
        wrong(TOO_MANY, thirty + "^repeat");
        wrong(TOO_MANY, thirty + "^if x");
        wrong(SYNTAX, thirty + "^else");
        wrong(SYNTAX, thirty + "^quit");
        wrong(SYNTAX, thirty + "^;");
        wrong(TOO_MANY, Check.repeated("cut(a);", 28) + "if (a) {move(a)behind(b);} else {"
                + "^clean (a);}");
        wrong(TOO_MANY, Check.repeated("repeat 2 {} ", 29) + "repeat 2 {^restore (a);}");
        Check.due("else behind the 30th command", Check.scriptErrorOf(
                Check.repeated("cut(a);", 29) + "if (a) {} else {}"), "");
    }

    private static void blocks() {
        String five = Check.repeated("repeat 2 {", 5);
        wrong(TOO_MANY, five + "repeat 2 ^{}");
        wrong(TOO_MANY, five + "if (a) ^{");
        wrong(SYNTAX, five + "if (a) ^;");
        wrong(SYNTAX, five + "^{");
        wrong(SYNTAX, five + "cut (a);}}}}} ^}");
        wrong(TOO_MANY, Check.repeated("if (a) {} else {", 5) + "repeat 1 ^{");
        wrong(SYNTAX, five + "}}}}^");
    }
}
