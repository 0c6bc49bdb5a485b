/** Promises 37 to 41: actions. */
final class ActionTest {
    private static final int MIN = Integer.MIN_VALUE;
    private static final int MAX = Integer.MAX_VALUE;

    private ActionTest() {
    }

    static void run() {
        cuttingPlaces();
        cuttingWords();
        restoring();
        restoredPlaces();
        restoredHandles();
        moving();
        movedHandles();
        wrongMoves();
        settingHandles();
    }

    private static void cuttingPlaces() {
        TranscriptCutter x = Check.loaded(RecordingTest.TALK);
        Check.due("cut 3 4", x.cut(3, 4), 0);
        Check.due("cut 3 4: film", Check.film(x), "0 1 2 5 6 7 8 | 0 1 2 3");
        Check.due("cut 1 4", x.cut(1, 4), 17 + 32);
        Check.due("cut 1 4: film", Check.film(x), "0 7 8 | 0 3");
        Check.due("cut 0 0", x.cut(0, 0), 28);
        Check.due("cut the rest", x.cut(0, 1), 123);
        Check.due("cut the rest: film", Check.film(x), "|");
        Check.notAllowed("cut of nothing", () -> x.cut(0, 0));
        Check.due("undo depth", x.undoDepth(), 4);

        TranscriptCutter y = Check.loaded(RecordingTest.TALK);
        y.move(3, 3, 0);
        Check.due("cut in film order", y.cut(1, 3), 130);
        Check.due("cut in film order: film", Check.film(y), "0 2 3 4 5 6 | 0 1 2");
        String before = Check.state(y);
        int[][] wrong = {{-1, 0}, {0, 6}, {6, 6}, {3, 2}, {MIN, MAX}, {MAX, MAX}, {0, MAX}, {0, -1}};
        for (int[] row : wrong) {
            Check.notAllowed("cut " + row[0] + " " + row[1], () -> y.cut(row[0], row[1]));
        }
        Check.due("a wrong cut changes nothing", Check.state(y), before);
    }

    private static void cuttingWords() {
        TranscriptCutter x = Check.loaded(RecordingTest.TALK);
        Check.due("cutWord 3", x.cutWord(3), TranscriptCutter.MUTED);
        Check.due("cutWord 6", x.cutWord(6), TranscriptCutter.CUT);
        Check.due("cutWord 0", x.cutWord(0), TranscriptCutter.MUTED);
        Check.due("cutWord 1", x.cutWord(1), TranscriptCutter.CUT);
        Check.due("film", Check.film(x), "2 4 5 7 8 | 1 3");
        String before = Check.state(x);
        Check.notNow("a cut word", () -> x.cutWord(6));
        Check.notNow("a muted word", () -> x.cutWord(3));
        for (int word : new int[] {9, -1, MIN, MAX}) {
            Check.noSuch("cutWord " + word, () -> x.cutWord(word));
        }
        Check.due("a wrong cutWord changes nothing", Check.state(x), before);
    }

    private static void restoring() {
        TranscriptCutter x = Check.loaded(RecordingTest.TALK);
        Check.due("restore kept words", x.restore(0, 8), 0);
        Check.due("recorded all the same", x.undoDepth(), 1);
        x.cut(1, 6);
        Check.due("film", Check.film(x), "0 7 8 | 0 3");
        Check.due("restore some", x.restore(0, 2), 2);
        Check.due("restore some: film", Check.film(x), "0 1 2 7 8 | 0 1 3");
        Check.due("its other words are muted then", x.wordField(3, 4), TranscriptCutter.MUTED);
        Check.due("restore one", x.restore(5, 5), 1);
        Check.due("restore one: film", Check.film(x), "0 1 2 5 7 8 | 0 1 3");
        String before = Check.state(x);
        Check.notAllowed("restore 5 4", () -> x.restore(5, 4));
        Check.noSuch("restore 9 9", () -> x.restore(9, 9));
        Check.noSuch("restore 0 9", () -> x.restore(0, 9));
        Check.noSuch("restore 0 -1", () -> x.restore(0, -1));
        Check.noSuch("restore 9 0", () -> x.restore(9, 0));
        Check.noSuch("restore min max", () -> x.restore(MIN, MAX));
        Check.due("a wrong restore changes nothing", Check.state(x), before);
    }

    private static void restoredPlaces() {
        TranscriptCutter x = Check.loaded(RecordingTest.TALK);
        x.cut(0, 8);
        Check.due("restore all", x.restore(0, 8), 9);
        Check.due("restore all: film", Check.film(x), "0 1 2 3 4 5 6 7 8 | 0 1 2 3");
        x.move(3, 3, -1);
        x.cutWord(6);
        x.restore(6, 6);
        Check.due("behind block 1", Check.film(x), "7 8 0 1 2 3 4 5 6 | 3 0 1 2");
        x.cut(4, 8);
        Check.due("blocks 3 and 0", Check.film(x), "7 8 0 1 | 3 0");
        x.restore(6, 6);
        Check.due("behind block 0", Check.film(x), "7 8 0 1 6 | 3 0 2");
        x.restore(2, 3);
        Check.due("between", Check.film(x), "7 8 0 1 2 3 6 | 3 0 1 2");
        x.cut(2, 3);
        x.restore(1, 1);
        Check.due("to the beginning", Check.film(x), "1 7 8 2 3 6 | 0 3 1 2");
        x.cut(1, 5);
        x.move(0, 0, -1);
        x.cut(0, 0);
        x.restore(8, 8);
        x.restore(0, 8);
        Check.due("one by one", Check.film(x), "0 1 2 3 4 5 6 7 8 | 0 1 2 3");
        x.move(2, 2, -1);
        x.cut(3, 6);
        Check.due("blocks 2 0 3 but for two words", Check.film(x), "6 0 1 7 8 | 2 0 3");
        x.restore(4, 4);
        Check.due("behind 0, not behind 2", Check.film(x), "6 0 1 4 7 8 | 2 0 1 3");
        x.restore(0, 8);
        x.move(2, 2, -1);
        x.cutWord(6);
        Check.due("blocks 1 0 3", Check.film(x), "2 3 4 5 0 1 7 8 | 1 0 3");
        x.restore(6, 6);
        Check.due("behind the greatest lower one, not the last", Check.film(x),
                "2 3 4 5 6 0 1 7 8 | 1 2 0 3");
    }

    private static void restoredHandles() {
        TranscriptCutter x = Check.loaded(RecordingTest.TALK);
        x.setHandles(0, 1, 2);
        x.setHandles(3, 3, 4);
        x.cut(0, 1);
        Check.due("a block that left keeps its head", x.blockField(0, 6), 1);
        Check.due("a block that left keeps its tail", x.blockField(0, 7), 2);
        x.cutWord(7);
        x.restore(0, 8);
        Check.due("back: head", x.blockField(0, 6), 0);
        Check.due("back: tail", x.blockField(0, 7), 0);
        Check.due("muted only: head", x.blockField(3, 6), 3);
        Check.due("muted only: tail", x.blockField(3, 7), 4);
    }

    private static void moved(int first, int last, int behind, int due, String film) {
        TranscriptCutter x = Check.loaded(RecordingTest.TALK);
        String what = "move " + first + " " + last + " " + behind;
        Check.due(what, x.move(first, last, behind), due);
        StringBuilder blocks = new StringBuilder();
        for (int shot = 0; shot < x.shots(); shot++) {
            blocks.append(x.blockOf(shot));
        }
        Check.due(what + ": blocks", blocks.toString(), film);
        for (int block = 0; block < 4; block++) {
            Check.due(what + ": head " + block, x.blockField(block, 6), block == first ? 7 : 0);
            Check.due(what + ": tail " + block, x.blockField(block, 7), block == last ? 7 : 0);
        }
        Check.due(what + ": undo depth", x.undoDepth(), 1);
    }

    private static void moving() {
        moved(1, 2, 3, 2, "0312");
        moved(1, 2, 0, 1, "0123");
        moved(1, 2, -1, 0, "1203");
        moved(0, 3, -1, 0, "0123");
        moved(2, 3, 0, 1, "0231");
        moved(0, 0, 3, 3, "1230");
        moved(0, 1, 2, 1, "2013");
        moved(0, 0, -1, 0, "0123");
        moved(3, 3, 2, 3, "0123");
        moved(3, 3, -1, 0, "3012");
        moved(0, 2, 3, 1, "3012");
        moved(1, 1, 2, 2, "0213");
    }

    private static void movedHandles() {
        TranscriptCutter x = Check.loaded(RecordingTest.TALK);
        x.setHandles(0, 1, 2);
        x.setHandles(1, 3, 4);
        x.setHandles(2, 5, 6);
        x.move(0, 2, 3);
        Check.due("only the outer handles change", Check.state(x),
                "7 8 0 1 2 3 4 5 6 | 3 0 1 2 7/2 3/4 5/7 0/0 undo 4 length 212");
        TranscriptCutter y = Check.loaded("handle 0;speaker a;word a x 1 2;word a y 10 20;");
        y.setHandles(1, 5, 5);
        y.move(1, 1, -1);
        Check.due("the handle length may be 0", Check.state(y), "1 0 | 1 0 0/0 0/0 undo 2 length 1000");
        TranscriptCutter z = Check.loaded("speaker a;word a x 1 2;word a y 50 60;");
        z.move(1, 1, -1);
        Check.due("the handle length is 12 without a line", z.blockField(1, 6), 12);
        Check.due("the moved shot begins 12 frames earlier", z.shotField(0, 0), 14);
    }

    private static void wrongMoves() {
        TranscriptCutter x = Check.loaded(RecordingTest.TALK);
        x.cutWord(6);
        String before = Check.state(x);
        int[][] noSuch = {{-1, 0, 2}, {0, 3, 2}, {3, 0, 9}, {3, 3, 3}, {0, -1, 1}, {MIN, MAX, 0},
            {MAX, MIN, -5}, {1, MIN, 0}};
        for (int[] row : noSuch) {
            Check.noSuch("move " + row[0] + " " + row[1] + " " + row[2],
                    () -> x.move(row[0], row[1], row[2]));
        }
        int[][] wrong = {{1, 0, -1}, {1, 0, 2}, {0, 0, -2}, {0, 0, 3}, {0, 0, 0}, {0, 1, 1},
            {0, 1, 0}, {0, 2, 1}, {1, 1, MAX}, {1, 1, MIN}};
        for (int[] row : wrong) {
            Check.notAllowed("move " + row[0] + " " + row[1] + " " + row[2],
                    () -> x.move(row[0], row[1], row[2]));
        }
        Check.due("a wrong move changes nothing", Check.state(x), before);
    }

    private static void settingHandles() {
        TranscriptCutter x = Check.loaded(RecordingTest.TALK);
        Check.due("setHandles 3", x.setHandles(3, 5, 0), 128);
        Check.due("setHandles 3 again", x.setHandles(3, 5, 0), 128);
        Check.due("recorded twice", x.undoDepth(), 2);
        Check.due("setHandles 3 to 0", x.setHandles(3, 0, 0), 123);
        x.cutWord(6);
        Check.due("a block that is not in the film", x.setHandles(2, 999, 999), 0);
        Check.due("its head", x.blockField(2, 6), 999);
        Check.due("its tail", x.blockField(2, 7), 999);
        String before = Check.state(x);
        int[][] wrong = {{0, -1, 0}, {0, 1000, 0}, {0, 0, -1}, {0, 0, 1000}, {0, MIN, MAX}};
        for (int[] row : wrong) {
            Check.notAllowed("setHandles " + row[0] + " " + row[1] + " " + row[2],
                    () -> x.setHandles(row[0], row[1], row[2]));
        }
        for (int block : new int[] {4, -1, MIN, MAX}) {
            Check.noSuch("setHandles " + block, () -> x.setHandles(block, 1000, 0));
        }
        Check.due("wrong handles change nothing", Check.state(x), before);
    }
}
