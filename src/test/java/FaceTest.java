import java.lang.reflect.Constructor;
import java.lang.reflect.Field;
import java.lang.reflect.Method;
import java.lang.reflect.Modifier;
import java.util.Arrays;
import java.util.List;
import java.util.TreeSet;

/** The face of the class, and what of ../shared/LANGUAGE.md shows in the compiled classes. */
final class FaceTest {
    private static final String FACE = "append(int,int,int,int,int):int truncate(int):boolean "
            + "load():int loadScript():int errorOffset():int errorKind():int count(int):int "
            + "wordField(int,int):int isSameText(int,int):boolean overlap(int,int):boolean "
            + "differentTexts():int blockField(int,int):int blockAt(int):int "
            + "isSnapped(int):boolean speakersAt(int):int shots():int blockOf(int):int "
            + "shotField(int,int):int filmLength():int clips():int clipField(int,int):int "
            + "sourceOf(int):int heard(int,int):int silence():int longestSilence():int "
            + "speakingTime(int):int transcriptSize():int transcriptWord(int):int "
            + "placeOf(int):int startInFilm(int):int occurrences(int):int stutters():int "
            + "lengthIfCut(int,int):int lengthIfRestored(int):int shotsToCut(int):int "
            + "cut(int,int):int cutWord(int):int restore(int,int):int move(int,int,int):int "
            + "setHandles(int,int,int):int runScript():int failed():int wasStopped():boolean "
            + "undo():int undoDepth():int formatTranscript():int formatShot(int):int "
            + "formattedByte(int):int";

    private FaceTest() {
    }

    static void run() {
        constants();
        methods();
        insideClasses();
        newObject();
    }

    private static void constants() {
        Check.due("NONE", TranscriptCutter.NONE, -1);
        Check.due("KEPT", TranscriptCutter.KEPT, 0);
        Check.due("MUTED", TranscriptCutter.MUTED, 1);
        Check.due("CUT", TranscriptCutter.CUT, 2);
        Check.due("SYNTAX", TranscriptCutter.SYNTAX, 1);
        Check.due("BAD_NUMBER", TranscriptCutter.BAD_NUMBER, 2);
        Check.due("BAD_NAME", TranscriptCutter.BAD_NAME, 3);
        Check.due("TOO_MANY", TranscriptCutter.TOO_MANY, 4);
        int open = 0;
        for (Field field : TranscriptCutter.class.getDeclaredFields()) {
            if (!Modifier.isPrivate(field.getModifiers())) {
                open++;
            }
        }
        Check.due("fields that are not private", open, 8);
    }

    private static void methods() {
        List<String> due = Arrays.asList(FACE.split(" "));
        TreeSet<String> open = new TreeSet<>();
        TreeSet<String> names = new TreeSet<>();
        for (Method method : TranscriptCutter.class.getDeclaredMethods()) {
            if (!Modifier.isPrivate(method.getModifiers()) && !method.isSynthetic()) {
                open.add(signature(method));
                names.add(method.getName());
            }
        }
        Check.due("the methods of the face", open.toString(), new TreeSet<>(due).toString());
        for (Method method : TranscriptCutter.class.getDeclaredMethods()) {
            boolean hidden = Modifier.isPrivate(method.getModifiers());
            Check.due(method.getName() + " is private with a public name",
                    hidden && names.contains(method.getName()), false);
        }
        for (Class<?> inside : TranscriptCutter.class.getDeclaredClasses()) {
            for (Method method : inside.getDeclaredMethods()) {
                Check.due(inside.getSimpleName() + "." + method.getName() + " has a public name",
                        names.contains(method.getName()), false);
            }
        }
        Constructor<?>[] constructors = TranscriptCutter.class.getDeclaredConstructors();
        Check.due("constructors", constructors.length, 1);
        Check.due("the constructor is public",
                Modifier.isPublic(constructors[0].getModifiers()), true);
        Check.due("the class is final",
                Modifier.isFinal(TranscriptCutter.class.getModifiers()), true);
    }

    private static String signature(Method method) {
        StringBuilder text = new StringBuilder(method.getName()).append('(');
        String comma = "";
        for (Class<?> type : method.getParameterTypes()) {
            text.append(comma).append(type.getSimpleName());
            comma = ",";
        }
        return text.append("):").append(method.getReturnType().getSimpleName()).toString();
    }

    private static void insideClasses() {
        Class<?>[] inside = TranscriptCutter.class.getDeclaredClasses();
        Check.due("at most twelve classes", inside.length + 1 <= 12, true);
        for (Class<?> one : inside) {
            int modifiers = one.getModifiers();
            Check.due(one.getSimpleName() + " is static", Modifier.isStatic(modifiers), true);
            Check.due(one.getSimpleName() + " is hidden",
                    Modifier.isPublic(modifiers) || Modifier.isProtected(modifiers), false);
            for (Field field : one.getDeclaredFields()) {
                boolean changing = Modifier.isStatic(field.getModifiers())
                        && !Modifier.isFinal(field.getModifiers());
                Check.due(one.getSimpleName() + "." + field.getName() + " is static state",
                        changing, false);
            }
        }
    }

    /** Promise 1. */
    private static void newObject() {
        TranscriptCutter x = new TranscriptCutter();
        int[] counts = {1000, 0, 0, 0, 0, 12};
        for (int what = 0; what < counts.length; what++) {
            Check.due("new: count " + what, x.count(what), counts[what]);
        }
        Check.due("new: buffer is empty", x.truncate(1), false);
        Check.due("new: buffer can be emptied", x.truncate(0), true);
        Check.due("new: error offset", x.errorOffset(), -1);
        Check.due("new: error kind", x.errorKind(), 0);
        Check.due("new: texts", x.differentTexts(), 0);
        Check.due("new: blockAt", x.blockAt(0), -1);
        Check.due("new: speakersAt", x.speakersAt(0), 0);
        Check.due("new: shots", x.shots(), 0);
        Check.due("new: film", x.filmLength(), 0);
        Check.due("new: clips", x.clips(), 0);
        Check.due("new: clipField", x.clipField(0, 0), -1);
        Check.due("new: sourceOf", x.sourceOf(0), -1);
        Check.due("new: silence", x.silence(), 0);
        Check.due("new: longest silence", x.longestSilence(), 0);
        Check.due("new: transcript", x.transcriptSize(), 0);
        Check.due("new: transcriptWord", x.transcriptWord(0), -1);
        Check.due("new: stutters", x.stutters(), 0);
        Check.due("new: shotsToCut", x.shotsToCut(0), 0);
        Check.due("new: undo depth", x.undoDepth(), 0);
        Check.due("new: undo", x.undo(), -1);
        Check.due("new: failed", x.failed(), 0);
        Check.due("new: stopped", x.wasStopped(), false);
        Check.due("new: formatted byte", x.formattedByte(0), -1);
        Check.due("new: run", x.runScript(), 0);
        Check.noSuch("new: wordField", () -> x.wordField(0, 0));
        Check.noSuch("new: blockField", () -> x.blockField(0, 0));
        Check.noSuch("new: blockOf", () -> x.blockOf(0));
        Check.noSuch("new: heard", () -> x.heard(0, 0));
        Check.noSuch("new: formatShot", () -> x.formatShot(0));
        Check.noSuch("new: move", () -> x.move(0, 0, -1));
        Check.notAllowed("new: cut", () -> x.cut(0, 0));
        Check.notAllowed("new: lengthIfCut", () -> x.lengthIfCut(0, 0));
    }
}
