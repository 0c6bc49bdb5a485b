/** The edges of the description: phrases, the script text, and the errors in it. */
final class ScriptEdges {
    private static final int SYNTAX = TranscriptCutter.SYNTAX;
    private static final int BAD_NUMBER = TranscriptCutter.BAD_NUMBER;
    private static final int TOO_MANY = TranscriptCutter.TOO_MANY;
    private static final String THIRTY = "cut(a);".repeat(30);
    private static final String FIVE = "repeat 2 {".repeat(5);

    private ScriptEdges() {
    }

    /** How many words of "a b c d e f g" the script leaves. */
    private static int left(String script) {
        TranscriptCutter x = Check.loaded(ScriptRunTest.spoken("a b c d e f g"));
        Check.run(x, script);
        return x.transcriptSize();
    }

    @Says("A phrase is a row of 1 to 6 texts.")
    static void phrases_oneAndSixTexts() {
        Check.due("one", left("cut (a);"), 6);
        Check.due("six", left("cut (a b c d e f);"), 1);
        Check.due("the last six", left("cut (b c d e f g);"), 1);
        Check.wrongScript(SYNTAX, "cut (^);");
        Check.wrongScript(TOO_MANY, "cut (a b c d e f ^g);");
    }

    @Says("It is found in the transcript at the first place at which words with these texts follow "
            + "each other.")
    static void phrases_firstPlace() {
        TranscriptCutter x = Check.loaded(ScriptRunTest.spoken("a a b a b a a"));
        Check.run(x, "cut (a b);");
        Check.due("not at 0, where only a stands", Check.film(x), "0 3 4 5 6 | 0 3 4 5 6");
        Check.run(x, "cut (a a);");
        Check.due("words that follow each other now", Check.film(x), "4 5 6 | 4 5 6");
        Check.run(x, "cut (b a a);");
        Check.due("the whole transcript", Check.film(x), "|");
        Check.run(x, "cut (a);");
        Check.due("nothing is found in nothing", x.failed(), 1);
    }

    @Says("It is found in the transcript at the first place at which words with these texts follow "
            + "each other.")
    static void phrases_pastTheEndAndLongerThanAll() {
        Check.due("at the end", left("cut (f g);"), 5);
        Check.due("past the end", left("cut (f g a);cut (g a);"), 7);
        Check.due("longer than all", left("cut (a b c d e f);cut (g g);cut (g a b c d e);"), 1);
        TranscriptCutter x = Check.loaded(TextEdges.words(39) + "word a z 78 79;");
        Check.run(x, "cut (z x);cut (x z x);cut (x z);");
        Check.due("past the end of forty", x.failed(), 2);
        Check.due("at the end of forty", x.transcriptSize(), 38);
    }

    @Says("a row of 1 to 6 texts")
    static void phrases_sameTextOnly() {
        TranscriptCutter x = Check.loaded(ScriptRunTest.spoken("a aa ab abcdef"));
        Check.run(x, "cut (b);cut (abcde);cut (aaa);cut (bcdef);");
        Check.due("all fail", x.failed(), 4);
        Check.run(x, "cut (abcdef);cut (aa);cut (ab);cut (a);");
        Check.due("none fails", x.failed(), 0);
    }

    // ---- the script text

    @Says("Script text. The text has at most 900 bytes.")
    static void scriptText_900Bytes() {
        String script = " ".repeat(892) + "cut (a);";
        Check.due("its last command", left(script), 6);
        Check.wrongScript(SYNTAX, script.substring(0, 899) + "^");
        Check.wrongScript(SYNTAX, script.substring(0, 899) + "^}");
    }

    @Says("script = { command }.")
    static void scriptText_noCommand() {
        Check.rightScript("");
        Check.rightScript(" \t\n");
        Check.wrongScript(SYNTAX, "^;");
        Check.wrongScript(SYNTAX, "^}");
        Check.wrongScript(SYNTAX, "cut (a);^;");
        Check.wrongScript(SYNTAX, "repeat 1 {}^}");
    }

    @Says("( \"cut\" | \"clean\" | \"restore\" ) phrase \";\"")
    static void scriptText_eachCommand() {
        for (String name : new String[] {"cut", "clean", "restore"}) {
            Check.rightScript(name + "(a);");
            Check.wrongScript(SYNTAX, name + "(a)^");
            Check.wrongScript(SYNTAX, name + "(a)^{}");
            Check.wrongScript(SYNTAX, name + "^;");
            Check.wrongScript(SYNTAX, name + "(a)^behind (b);");
            Check.wrongScript(SYNTAX, "^" + name + "s(a);");
        }
    }

    @Says("\"move\" phrase \"behind\" phrase \";\"")
    static void scriptText_move() {
        Check.rightScript("move(a)behind(b);");
        Check.wrongScript(SYNTAX, "move(a)^;");
        Check.wrongScript(SYNTAX, "move(a)^(b);");
        Check.wrongScript(SYNTAX, "move(a)^");
        Check.wrongScript(SYNTAX, "move(a)^cut(b);");
        Check.wrongScript(SYNTAX, "move(a)^behinds(b);");
        Check.wrongScript(SYNTAX, "move(a)behind^;");
        Check.wrongScript(SYNTAX, "move(a)behind(b)^");
        Check.wrongScript(SYNTAX, "move ^behind(b);");
    }

    @Says("\"if\" phrase block [ \"else\" block ] | \"repeat\" number block.")
    static void scriptText_ifAndRepeat() {
        Check.rightScript("if(a){}if(b){}else{}repeat 1{}");
        Check.wrongScript(SYNTAX, "if^{}");
        Check.wrongScript(SYNTAX, "if(a)^;");
        Check.wrongScript(SYNTAX, "if(a)^else{}");
        Check.wrongScript(SYNTAX, "if(a){}else^;");
        Check.wrongScript(SYNTAX, "if(a){}else{}^else{}");
        Check.wrongScript(SYNTAX, "repeat^{}");
        Check.wrongScript(SYNTAX, "repeat 1{}^else{}");
        Check.wrongScript(SYNTAX, "^else{}");
    }

    @Says("phrase = \"(\" name { name } \")\".")
    static void scriptText_phrase() {
        Check.rightScript("cut(a);cut ( a b ) ;");
        Check.wrongScript(SYNTAX, "cut(^);");
        Check.wrongScript(SYNTAX, "cut(a^;");
        Check.wrongScript(SYNTAX, "cut ^a;");
        Check.wrongScript(SYNTAX, "cut(a ^1);");
        Check.wrongScript(SYNTAX, "cut(a^,b);");
        Check.wrongScript(SYNTAX, "cut(^abcdefg);");
        Check.rightScript("cut(abcdef);");
    }

    @Says("block = \"{\" { command } \"}\".")
    static void scriptText_block() {
        Check.rightScript("repeat 1{}repeat 1{cut(a);cut(b);}");
        Check.wrongScript(SYNTAX, "repeat 1^cut(a);");
        Check.wrongScript(SYNTAX, "repeat 1{cut(a);^");
        Check.wrongScript(SYNTAX, "repeat 1{cut(a)^}");
        Check.wrongScript(SYNTAX, "repeat 1{^{}}");
    }

    @Says("The number of \"repeat\" is 1 to 9.")
    static void scriptText_repeatOneAndNine() {
        Check.due("once", left("repeat 1 {cut (a);}"), 6);
        TranscriptCutter x = Check.loaded(ScriptRunTest.spoken("a a a a a a a a a a"));
        Check.due("nine times", Check.run(x, "repeat 9 {cut (a);}"), 10);
        Check.due("one is left", x.transcriptSize(), 1);
        Check.rightScript("repeat 00009 {}");
        Check.wrongScript(BAD_NUMBER, "repeat ^0 {}");
        Check.wrongScript(BAD_NUMBER, "repeat ^10 {}");
        Check.wrongScript(BAD_NUMBER, "repeat ^000001 {}");
    }

    @Says("Blocks nest at most 5 deep")
    static void scriptText_fiveBlocksDeep() {
        Check.due("the innermost one", left(FIVE + "cut (a);" + "}".repeat(5)), 6);
        Check.rightScript(FIVE + "}".repeat(5) + FIVE + "}".repeat(5));
        Check.rightScript("if(a){}else{".repeat(5) + "}".repeat(5));
        Check.due("if", left("if(b){".repeat(5) + "cut (a);" + "}".repeat(5)), 6);
        Check.due("else", left("if(x){}else{".repeat(5) + "cut (a);" + "}".repeat(5)), 6);
        Check.wrongScript(TOO_MANY, FIVE + "repeat 2 ^{");
    }

    @Says("there are at most 30 commands, those in blocks included")
    static void scriptText_thirtyCommands() {
        Check.rightScript(THIRTY);
        Check.rightScript("if(a){" + "cut(a);".repeat(14) + "}else{" + "cut(a);".repeat(15) + "}");
        Check.wrongScript(TOO_MANY, THIRTY + "^cut(a);");
        Check.wrongScript(TOO_MANY, "if(a){" + "cut(a);".repeat(14) + "}else{" + "cut(a);".repeat(15)
                + "^cut(a);}");
        Check.due("the 30th is done", left("cut(x);".repeat(29) + "cut(a);"), 6);
        Check.rightScript("move(a b c d e f)behind(g);".repeat(30));
        TranscriptCutter x = Check.loaded(ScriptRunTest.spoken("a b c d e f g"));
        Check.run(x, "cut(x);".repeat(29) + "move(a)behind(b c d e f g);");
        Check.due("the 30th moves", Check.film(x), "1 2 3 4 5 6 0 | 1 2 3 4 5 6 0");
        Check.wrongScript(TOO_MANY, "repeat 1{" + "cut(a);".repeat(29) + "}^cut(a);");
    }

    // ---- errors

    @Says("if the text ends too early, it is the length of the text")
    static void errors_scriptEndsTooEarly() {
        String script = "if ( a ) { cut ( b ) ; } else { move ( a ) behind ( b ) ; } ";
        // Between line ends a script can end: behind the block of the "if", if no "else" follows.
        int complete = script.indexOf(" else");
        for (int end = 2; end < script.length() - 1; end++) {
            boolean between = script.charAt(end) == ' ' || script.charAt(end - 1) == ' ';
            if (end == complete || end == complete + 1) {
                Check.rightScript(script.substring(0, end));
            } else if (between && end != script.length() - 2) {
                Check.wrongScript(SYNTAX, script.substring(0, end) + "^");
                Check.wrongScript(SYNTAX, script.substring(0, end) + "\n^");
            }
        }
        Check.rightScript(script);
        Check.wrongScript(SYNTAX, "repeat^");
        Check.wrongScript(SYNTAX, "repeat 9^");
        Check.wrongScript(SYNTAX, "repeat 9{ ^");
    }

    @Says("in a script a 31st command, at its first token")
    static void errors_thirtyFirstCommand() {
        for (String name : new String[] {"cut", "clean", "restore", "move", "if", "repeat"}) {
            Check.wrongScript(TOO_MANY, THIRTY + " ^" + name);
            Check.wrongScript(TOO_MANY, THIRTY + "^" + name + " # wrong");
        }
        Check.wrongScript(TOO_MANY, "repeat 2 {}".repeat(29) + "repeat 2 {^cut (a);}");
        Check.wrongScript(SYNTAX, "repeat 2 {}".repeat(29) + "repeat 2 {^#");
    }

    @Says("if a 31st command is none of the commands, it is SYNTAX")
    static void errors_thirtyFirstCommandThatIsNone() {
        for (String none : new String[] {"cuts", "else", "behind", "a", "7", ";", "(", "{", "}", "#"}) {
            Check.wrongScript(SYNTAX, THIRTY + "^" + none);
        }
        Check.wrongScript(SYNTAX, "repeat 1{" + "cut(a);".repeat(29) + "^else{}}");
        Check.rightScript("repeat 1{" + "cut(a);".repeat(29) + "}");
    }

    @Says("a 7th name of a phrase, at it")
    static void errors_seventhName() {
        for (String head : new String[] {"cut", "clean", "restore", "if", "move", "move(a)behind"}) {
            Check.wrongScript(TOO_MANY, head + "(a b c d e f ^g);");
        }
        Check.wrongScript(TOO_MANY, "cut(a b c d e f ^g");
        Check.wrongScript(TOO_MANY, "cut(a b c d e f\n^g h");
        Check.wrongScript(SYNTAX, "cut(a b c d e f ^7);");
        Check.wrongScript(SYNTAX, "cut(a b c d e f^;");
        Check.wrongScript(SYNTAX, "cut(a b c d e f^");
    }

    @Says("If a 7th name of a phrase has more than 6 letters, it is SYNTAX")
    static void errors_seventhNameOfSevenLetters() {
        Check.wrongScript(TOO_MANY, "cut(a b c d e f ^abcdef);");
        Check.wrongScript(SYNTAX, "cut(a b c d e f ^abcdefg);");
        Check.wrongScript(SYNTAX, "move(a)behind(a b c d e f ^abcdefgh");
    }

    @Says("and the \"{\" of a block that is inside of 5 others")
    static void errors_sixthBlock() {
        Check.wrongScript(TOO_MANY, FIVE + "if (a) ^{");
        Check.wrongScript(TOO_MANY, FIVE + "repeat 9\n^{}");
        Check.wrongScript(TOO_MANY, "if(a){}else{".repeat(5) + "repeat 1 ^{");
        Check.wrongScript(TOO_MANY, "if(a){".repeat(5) + "if(a)^{}else{}");
        Check.wrongScript(SYNTAX, FIVE + "if (a) ^;");
        Check.wrongScript(SYNTAX, FIVE + "repeat 9^");
        Check.wrongScript(SYNTAX, FIVE + "^{");
        Check.wrongScript(BAD_NUMBER, FIVE + "repeat ^10 {");
    }

    @Says("a number with more than 5 digits or out of its range")
    static void errors_numberOfRepeat() {
        Check.wrongScript(BAD_NUMBER, "repeat ^000009 {}");
        Check.wrongScript(BAD_NUMBER, "repeat ^00000");
        Check.wrongScript(BAD_NUMBER, "repeat ^99999;");
        Check.wrongScript(SYNTAX, "repeat 9 ^9 {}");
        Check.wrongScript(SYNTAX, "repeat ^-1 {}");
    }

    @Says("SYNTAX: everything else.")
    static void errors_everythingElseInAScript() {
        Check.wrongScript(SYNTAX, "^length 5;");
        Check.wrongScript(SYNTAX, "^Cut (a);");
        Check.wrongScript(SYNTAX, "cut (a);^" + (char) 0);
        Check.wrongScript(SYNTAX, "cut (a)^" + (char) 11 + ";");
        Check.wrongScript(SYNTAX, "cut ^[a];");
        Check.wrongScript(SYNTAX, "^cutt (a);");
        Check.wrongScript(SYNTAX, "^cu");
    }
}
