/** The errors of a script text: in each script a "^" marks the error offset. */
final class ScriptErrorTest {
    private static final int SYNTAX = TranscriptCutter.SYNTAX;
    private static final int BAD_NUMBER = TranscriptCutter.BAD_NUMBER;
    private static final int TOO_MANY = TranscriptCutter.TOO_MANY;

    private ScriptErrorTest() {
    }

    static void run() {
        syntax();
        endsTooEarly();
        repeats();
        phrases();
        commands();
        blocks();
    }

    private static void syntax() {
        Check.wrongScript(SYNTAX, "^;");
        Check.wrongScript(SYNTAX, "^}");
        Check.wrongScript(SYNTAX, "^{}");
        Check.wrongScript(SYNTAX, "^else {}");
        Check.wrongScript(SYNTAX, "^behind (a);");
        Check.wrongScript(SYNTAX, "^cuts (a);");
        Check.wrongScript(SYNTAX, "^but (a);");
        Check.wrongScript(SYNTAX, "^cat (a);");
        Check.wrongScript(SYNTAX, "^Cut (a);");
        Check.wrongScript(SYNTAX, "^7");
        Check.wrongScript(SYNTAX, "cut ^a;");
        Check.wrongScript(SYNTAX, "cut (^);");
        Check.wrongScript(SYNTAX, "cut (a^;");
        Check.wrongScript(SYNTAX, "cut (a)^}");
        Check.wrongScript(SYNTAX, "cut (a) ^cut (a);");
        Check.wrongScript(SYNTAX, "cut (a ^1);");
        Check.wrongScript(SYNTAX, "cut (^abcdefg);");
        Check.wrongScript(SYNTAX, "cut (a)^(b);");
        Check.wrongScript(SYNTAX, "cut (a);^;");
        Check.wrongScript(SYNTAX, "cut (a^,b);");
        Check.wrongScript(SYNTAX, "clean (a)^{}");
        Check.wrongScript(SYNTAX, "restore ^{}");
        Check.wrongScript(SYNTAX, "move (a)^;");
        Check.wrongScript(SYNTAX, "move (a) ^(b);");
        Check.wrongScript(SYNTAX, "move (a) ^before (b);");
        Check.wrongScript(SYNTAX, "move (a) behind ^b;");
        Check.wrongScript(SYNTAX, "move (a) behind (b) ^{");
        Check.wrongScript(SYNTAX, "if ^{}");
        Check.wrongScript(SYNTAX, "if (a) ^;");
        Check.wrongScript(SYNTAX, "if (a) ^else {}");
        Check.wrongScript(SYNTAX, "if (a) {} else ^;");
        Check.wrongScript(SYNTAX, "if (a) {} else {} ^else {}");
        Check.wrongScript(SYNTAX, "if (a) {}^;");
        Check.wrongScript(SYNTAX, "if (a) {^;}");
        Check.wrongScript(SYNTAX, "if (a) {^{}}");
        Check.wrongScript(SYNTAX, "repeat 2 {} ^else {}");
        Check.wrongScript(SYNTAX, "repeat 2 {cut (a)^}");
        Check.wrongScript(SYNTAX, "repeat 2 {cut (a);}^}");
        Check.wrongScript(SYNTAX, "repeat 2 ^cut (a);");
        Check.wrongScript(SYNTAX, "cut (a);^" + (char) 255);
    }

    private static void endsTooEarly() {
        Check.wrongScript(SYNTAX, "cut^");
        Check.wrongScript(SYNTAX, "cut (^");
        Check.wrongScript(SYNTAX, "cut (a ^");
        Check.wrongScript(SYNTAX, "cut (a)^");
        Check.wrongScript(SYNTAX, "move (a)\n^");
        Check.wrongScript(SYNTAX, "move (a) behind^");
        Check.wrongScript(SYNTAX, "if^");
        Check.wrongScript(SYNTAX, "if (a)^");
        Check.wrongScript(SYNTAX, "if (a) {^");
        Check.wrongScript(SYNTAX, "if (a) {} else^");
        Check.wrongScript(SYNTAX, "if (a) {} else { ^");
        Check.wrongScript(SYNTAX, "repeat^");
        Check.wrongScript(SYNTAX, "repeat 2^");
        Check.wrongScript(SYNTAX, "repeat 2 {cut (a);^");
        Check.wrongScript(SYNTAX, "^cu");
    }

    private static void repeats() {
        Check.wrongScript(SYNTAX, "repeat ^{}");
        Check.wrongScript(SYNTAX, "repeat ^x {}");
        Check.wrongScript(BAD_NUMBER, "repeat ^0 {}");
        Check.wrongScript(BAD_NUMBER, "repeat ^10 {}");
        Check.wrongScript(BAD_NUMBER, "repeat ^000001 {}");
        Check.wrongScript(BAD_NUMBER, "repeat ^99999");
        Check.wrongScript(SYNTAX, "repeat 1 ^1 {}");
        Check.due("repeat 1 and 9", Check.scriptErrorOf("repeat 1{}repeat9{}repeat 00009 {}"), "");
    }

    private static void phrases() {
        Check.wrongScript(TOO_MANY, "cut (a b c d e f ^g);");
        Check.wrongScript(TOO_MANY, "cut (a b c d e f ^abcdef");
        Check.wrongScript(SYNTAX, "cut (a b c d e f ^abcdefg);");
        Check.wrongScript(SYNTAX, "cut (a b c d e f ^1);");
        Check.wrongScript(SYNTAX, "cut (a b c d e f^;");
        Check.wrongScript(SYNTAX, "cut (a b c d e f^");
        Check.wrongScript(TOO_MANY, "move (a) behind (a b c d e f ^g);");
        Check.wrongScript(TOO_MANY, "if (a b c d e f ^g) {}");
    }

    private static void commands() {
        String thirty = Check.repeated("cut(a);", 30);
        Check.wrongScript(TOO_MANY, thirty + " ^cut(a);");
        Check.wrongScript(TOO_MANY, thirty + "^repeat");
        Check.wrongScript(TOO_MANY, thirty + "^if x");
        Check.wrongScript(SYNTAX, thirty + "^else");
        Check.wrongScript(SYNTAX, thirty + "^quit");
        Check.wrongScript(SYNTAX, thirty + "^;");
        Check.wrongScript(TOO_MANY, Check.repeated("cut(a);", 28) + "if (a) {move(a)behind(b);} else {"
                + "^clean (a);}");
        Check.wrongScript(TOO_MANY, Check.repeated("repeat 2 {} ", 29) + "repeat 2 {^restore (a);}");
        Check.due("else behind the 30th command", Check.scriptErrorOf(
                Check.repeated("cut(a);", 29) + "if (a) {} else {}"), "");
    }

    private static void blocks() {
        String five = Check.repeated("repeat 2 {", 5);
        Check.wrongScript(TOO_MANY, five + "repeat 2 ^{}");
        Check.wrongScript(TOO_MANY, five + "if (a) ^{");
        Check.wrongScript(SYNTAX, five + "if (a) ^;");
        Check.wrongScript(SYNTAX, five + "^{");
        Check.wrongScript(SYNTAX, five + "cut (a);}}}}} ^}");
        Check.wrongScript(TOO_MANY, Check.repeated("if (a) {} else {", 5) + "repeat 1 ^{");
        Check.wrongScript(SYNTAX, five + "}}}}^");
    }
}
