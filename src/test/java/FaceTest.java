import java.io.IOException;
import java.lang.reflect.Field;
import java.lang.reflect.Method;
import java.lang.reflect.Modifier;
import java.nio.file.Files;
import java.nio.file.Path;
import java.util.TreeSet;

/** The face of the class, and what of ../shared/LANGUAGE.md shows in the compiled classes. */
final class FaceTest {
    private FaceTest() {
    }

    static void run() {
        constants();
        members();
        names();
        insideClasses();
        newObject();
    }

    private static void constants() {
        Check.due("NONE", TranscriptCutter.NONE, -1);
        Check.due("KEPT", TranscriptCutter.KEPT, 0);
        Check.due("MUTED", TranscriptCutter.MUTED, 1);
        Check.due("CUT", TranscriptCutter.CUT, 2);
        Check.due("SYNTAX", TranscriptCutter.SYNTAX, 1);
        Check.due("BAD_NUMBER", TranscriptCutter.BAD_NUMBER, 2);
        Check.due("BAD_NAME", TranscriptCutter.BAD_NAME, 3);
        Check.due("TOO_MANY", TranscriptCutter.TOO_MANY, 4);
        int open = 0;
        for (Field field : TranscriptCutter.class.getDeclaredFields()) {
            if (!Modifier.isPrivate(field.getModifiers())) {
                open++;
            }
        }
        Check.due("fields that are not private", open, 8);
    }

    /** Each member stands in the program as in the document, and nothing else is to be seen. */
    private static void members() {
        String program = program();
        int methods = 0;
        int constants = 0;
        for (String member : Document.read().face()) {
            boolean constant = member.contains("=");
            Check.due("the program has '" + member + "'",
                    program.contains(" " + member + (constant ? ";" : " {")), true);
            constants += constant ? 1 : 0;
            methods += constant ? 0 : 1;
        }
        Check.due("the constants, and the constructor and methods", constants + " " + methods, "8 49");
        int openMethods = 0;
        for (Method method : TranscriptCutter.class.getDeclaredMethods()) {
            openMethods += isOpen(method) ? 1 : 0;
        }
        Check.due("open methods", openMethods, methods - 1);
        Check.due("constructors", TranscriptCutter.class.getDeclaredConstructors().length, 1);
        Check.due("the class is final",
                Modifier.isFinal(TranscriptCutter.class.getModifiers()), true);
    }

    private static String program() {
        try {
            return Document.plain(Files.readString(Path.of("src/main/java/TranscriptCutter.java")));
        } catch (IOException e) {
            throw new IllegalStateException("the program cannot be read", e);
        }
    }

    private static boolean isOpen(Method method) {
        return !Modifier.isPrivate(method.getModifiers()) && !method.isSynthetic();
    }

    /** No other method has the name of one of the face. */
    private static void names() {
        TreeSet<String> names = new TreeSet<>();
        for (Method method : TranscriptCutter.class.getDeclaredMethods()) {
            if (isOpen(method)) {
                names.add(method.getName());
            }
        }
        for (Method method : TranscriptCutter.class.getDeclaredMethods()) {
            Check.due(method.getName() + " is private with a public name",
                    !isOpen(method) && names.contains(method.getName()), false);
        }
        for (Class<?> inside : TranscriptCutter.class.getDeclaredClasses()) {
            for (Method method : inside.getDeclaredMethods()) {
                Check.due(inside.getSimpleName() + "." + method.getName() + " has a public name",
                        names.contains(method.getName()), false);
            }
        }
    }

    private static void insideClasses() {
        Class<?>[] inside = TranscriptCutter.class.getDeclaredClasses();
        Check.due("at most twelve classes", inside.length + 1 <= 12, true);
        for (Class<?> one : inside) {
            int modifiers = one.getModifiers();
            Check.due(one.getSimpleName() + " is static", Modifier.isStatic(modifiers), true);
            Check.due(one.getSimpleName() + " is hidden",
                    Modifier.isPublic(modifiers) || Modifier.isProtected(modifiers), false);
            for (Field field : one.getDeclaredFields()) {
                boolean changing = Modifier.isStatic(field.getModifiers())
                        && !Modifier.isFinal(field.getModifiers());
                Check.due(one.getSimpleName() + "." + field.getName() + " is static state",
                        changing, false);
            }
        }
    }

    /** Promise 1. */
    private static void newObject() {
        TranscriptCutter x = new TranscriptCutter();
        int[] counts = {1000, 0, 0, 0, 0, 12};
        for (int what = 0; what < counts.length; what++) {
            Check.due("new: count " + what, x.count(what), counts[what]);
        }
        Check.due("new: buffer is empty", x.truncate(1), false);
        Check.due("new: buffer can be emptied", x.truncate(0), true);
        Check.due("new: error offset", x.errorOffset(), -1);
        Check.due("new: error kind", x.errorKind(), 0);
        Check.due("new: texts", x.differentTexts(), 0);
        Check.due("new: blockAt", x.blockAt(0), -1);
        Check.due("new: speakersAt", x.speakersAt(0), 0);
        Check.due("new: shots", x.shots(), 0);
        Check.due("new: film", x.filmLength(), 0);
        Check.due("new: clips", x.clips(), 0);
        Check.due("new: clipField", x.clipField(0, 0), -1);
        Check.due("new: sourceOf", x.sourceOf(0), -1);
        Check.due("new: silence", x.silence(), 0);
        Check.due("new: longest silence", x.longestSilence(), 0);
        Check.due("new: transcript", x.transcriptSize(), 0);
        Check.due("new: transcriptWord", x.transcriptWord(0), -1);
        Check.due("new: stutters", x.stutters(), 0);
        Check.due("new: shotsToCut", x.shotsToCut(0), 0);
        Check.due("new: undo depth", x.undoDepth(), 0);
        Check.due("new: undo", x.undo(), -1);
        Check.due("new: failed", x.failed(), 0);
        Check.due("new: stopped", x.wasStopped(), false);
        Check.due("new: formatted byte", x.formattedByte(0), -1);
        Check.due("new: run", x.runScript(), 0);
        Check.noSuch("new: wordField", () -> x.wordField(0, 0));
        Check.noSuch("new: blockField", () -> x.blockField(0, 0));
        Check.noSuch("new: blockOf", () -> x.blockOf(0));
        Check.noSuch("new: heard", () -> x.heard(0, 0));
        Check.noSuch("new: formatShot", () -> x.formatShot(0));
        Check.noSuch("new: move", () -> x.move(0, 0, -1));
        Check.notAllowed("new: cut", () -> x.cut(0, 0));
        Check.notAllowed("new: lengthIfCut", () -> x.lengthIfCut(0, 0));
    }
}
