/** Promises 2 to 7 but for the single errors: the buffer, loading, and what an error leaves. */
final class InputTest {
    private static final String SMALL = "speaker a;word a x 1 2;";

    private InputTest() {
    }

    static void run() {
        appending();
        truncating();
        loading();
        failedLoadKeepsAll();
        loadingAnew();
        loadingScripts();
    }

    private static void appending() {
        TranscriptCutter x = new TranscriptCutter();
        for (int k = 1; k <= 45; k++) {
            Check.due("append " + k, x.append(0x20202020, 0x20202020, 0x20202020, 0x20202020,
                    0x20202020), 20 * k);
        }
        Check.due("append behind 900", x.append(0, 0, 0, 0, 0), -1);
        Check.due("nothing was appended", x.truncate(901), false);
        Check.due("to 881", x.truncate(881), true);
        Check.due("append to 901", x.append(0, 0, 0, 0, 0), -1);
        Check.due("still 881, not 882", x.truncate(882), false);
        Check.due("to 880", x.truncate(880), true);
        Check.due("append to 900", x.append(0x20202020, 0x20202020, 0x20202020, 0x20202020,
                0x20202020), 900);
        Check.due("900 blanks are a text", x.load(), 0);

        // The most significant byte comes first, and the parameters in turn: "length 12345;" ...
        x.append(0x6c656e67, 0x74682031, 0x32333435, 0x3b68616e, 0x646c6520);
        x.append(0x37373b20, 0, 0, 0, 0);
        x.truncate(23);
        x.load();
        Check.due("length of the appended text", x.count(0), 12345);
        Check.due("handle of the appended text", x.count(5), 77);

        // A byte above 127 is no blank and no letter.
        x.append(0x8020a020, 0xe1000000, 0, 0, 0);
        Check.notAllowed("text with a high byte", x::load);
        Check.due("high byte: offset", x.errorOffset(), 0);
    }

    private static void truncating() {
        TranscriptCutter x = new TranscriptCutter();
        x.append(0, 0, 0, 0, 0);
        Check.due("truncate(-1)", x.truncate(-1), false);
        Check.due("truncate(21)", x.truncate(21), false);
        Check.due("truncate(min)", x.truncate(Integer.MIN_VALUE), false);
        Check.due("truncate(max)", x.truncate(Integer.MAX_VALUE), false);
        Check.due("truncate(20)", x.truncate(20), true);
        Check.due("truncate(13)", x.truncate(13), true);
        Check.due("truncate(14) then", x.truncate(14), false);
        Check.due("append then", x.append(0, 0, 0, 0, 0), 33);
        Check.due("truncate(0)", x.truncate(0), true);
        Check.due("append to nothing", x.append(0, 0, 0, 0, 0), 20);
    }

    private static void loading() {
        TranscriptCutter x = new TranscriptCutter();
        Check.fill(x, SMALL);
        Check.due("load", x.load(), 1);
        Check.due("load empties the buffer", x.truncate(1), false);
        Check.due("empty text", x.load(), 0);
        Check.due("empty text: words", x.count(2), 0);
        Check.due("empty text: length", x.count(0), 1000);
        Check.fill(x, "length 5;handle 3;length 60;handle 0; speaker a;speaker b;\n"
                + "\tword b y 3 9;word\na\tx 3 7 ;breath 1 2;");
        Check.due("load of two", x.load(), 2);
        Check.due("the last length counts", x.count(0), 60);
        Check.due("the last handle counts", x.count(5), 0);
        Check.due("speakers", x.count(1), 2);
        Check.due("breaths", x.count(4), 1);
        Check.due("same start: by speaker", x.wordField(0, 2), 7);
        Check.due("no blank is needed between letters and digits",
                Check.errorOf("length9;speaker a;word a b1 2;"), "");
        Check.due("keywords can be names", Check.errorOf(
                "speaker word;word word length 1 2;word word word 3 4;"), "");
        Check.due("names of six letters and numbers of five digits", Check.errorOf(
                "speaker abcdef;word abcdef uvwxyz 00001 00002;length 00010;handle 00999;"), "");
        Check.due("the widest numbers", Check.errorOf(
                "length 99999;speaker a;word a x 99998 99999;breath 99998 99999;"), "");
        Check.due("a later line may set the length", Check.errorOf(
                "length 1;" + SMALL + "length 2;"), "");
    }

    private static void failedLoadKeepsAll() {
        TranscriptCutter x = Check.loaded("length 90;handle 4;speaker a;word a x 1 9;word a y 20 30;");
        x.cutWord(1);
        x.setHandles(0, 2, 3);
        x.formatTranscript();
        Check.run(x, "cut (q);");
        String before = Check.state(x);
        Check.fill(x, "length 7;handle 9;speaker b;speaker c;word b z 1 2;word b z 1 2;");
        Check.notAllowed("wrong text", x::load);
        Check.due("wrong text: kind", x.errorKind(), TranscriptCutter.BAD_NUMBER);
        Check.due("wrong text: offset", x.errorOffset(), 60);
        Check.due("wrong text: the buffer is empty", x.truncate(1), false);
        Check.due("wrong text: state", Check.state(x), before);
        Check.due("wrong text: length", x.count(0), 90);
        Check.due("wrong text: handle", x.count(5), 4);
        Check.due("wrong text: speakers", x.count(1), 1);
        Check.due("wrong text: words", x.count(2), 2);
        Check.due("wrong text: formatted", Check.formatted(x), "x");
        Check.due("wrong text: failed", x.failed(), 1);
        x.load();
        Check.due("right text: kind", x.errorKind(), 0);
        Check.due("right text: offset", x.errorOffset(), -1);
    }

    private static void loadingAnew() {
        TranscriptCutter x = Check.loaded("speaker a;word a x 1 9;word a y 20 30;word a z 40 41;");
        x.formatTranscript();
        Check.run(x, "cut (x);cut (x);");
        x.move(0, 0, 1);
        Check.fill(x, "length 50;speaker a;word a x 1 9;word a y 20 30;");
        Check.due("load anew", x.load(), 2);
        Check.due("load anew: state", Check.state(x), "0 1 | 0 1 0/0 0/0 undo 0 length 50");
        Check.due("load anew: undo", x.undo(), -1);
        Check.due("load anew: failed stays", x.failed(), 1);
        Check.due("load anew: formatted text stays", Check.formatted(x), "x / y / z");
        Check.due("load anew: the script stays", x.runScript(), 2);
        Check.due("the script cuts the new word", Check.film(x), "1 | 1");

        TranscriptCutter y = new TranscriptCutter();
        Check.run(y, Check.repeated("repeat 9 {", 3) + "cut (x);" + Check.repeated("}", 3));
        Check.due("stopped", y.wasStopped(), true);
        Check.fill(y, SMALL);
        y.load();
        Check.due("load: stopped stays", y.wasStopped(), true);
    }

    private static void loadingScripts() {
        TranscriptCutter x = Check.loaded("speaker a;word a x 1 9;word a y 20 30;");
        Check.due("loadScript", Check.script(x, "if (x) { cut (x); cut (y); } else {} repeat 2 {}"), 4);
        Check.due("loadScript empties the buffer", x.truncate(1), false);
        x.runScript();
        String before = Check.state(x);
        Check.fill(x, "cut (x); clean (y);;");
        Check.notAllowed("wrong script", x::loadScript);
        Check.due("wrong script: kind", x.errorKind(), TranscriptCutter.SYNTAX);
        Check.due("wrong script: offset", x.errorOffset(), 19);
        Check.due("wrong script: the buffer is empty", x.truncate(1), false);
        Check.due("wrong script: state", Check.state(x), before);
        x.undo();
        Check.due("wrong script: the old one stays", x.runScript(), 4);
        Check.due("wrong script: the old one cuts", Check.film(x), "|");
        Check.due("empty script", Check.script(x, " \n\t"), 0);
        Check.due("right script: kind", x.errorKind(), 0);
        Check.due("right script: offset", x.errorOffset(), -1);
        Check.due("loadScript keeps what is told of the run", x.failed(), 0);
        Check.due("empty script runs", x.runScript(), 0);
        Check.due("30 commands", Check.script(x, Check.repeated("cut(a);", 30)), 30);
        Check.due("blocks five deep", Check.script(x, Check.repeated("repeat 1{", 5)
                + Check.repeated("}", 5) + Check.repeated("if(a){}else{", 5)
                + Check.repeated("}", 5)), 10);
        Check.due("a phrase of six", Check.script(x, "clean(a b c d e behind);"), 1);
        Check.due("all commands", Check.script(x, "cut (cut) ; clean (else);restore(move);"
                + "move (behind) behind (behind);if (if) {repeat 9{}} else {repeat 00001 {}}"), 7);
        Check.script(x, "cut (y);cut (y);");
        x.undo();
        x.undo();
        x.runScript();
        Check.due("failed before", x.failed(), 1);
        Check.script(x, "cut (y);");
        Check.due("failed after loadScript", x.failed(), 1);
    }
}
