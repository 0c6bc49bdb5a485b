import java.lang.reflect.InvocationTargetException;
import java.lang.reflect.Method;
import java.util.Arrays;
import java.util.HashMap;
import java.util.Map;
import java.util.Random;

/** Runs of calls from a fixed seed, each answer compared with that of the model. */
final class ModelTest {
    private static final String[] QUESTIONS = {"count", "wordField", "isSameText", "overlap",
        "differentTexts", "blockField", "blockAt", "isSnapped", "speakersAt", "shots", "blockOf",
        "shotField", "filmLength", "clips", "clipField", "sourceOf", "heard", "silence",
        "longestSilence", "speakingTime", "transcriptSize", "transcriptWord", "placeOf",
        "startInFilm", "occurrences", "stutters", "lengthIfCut", "lengthIfRestored", "shotsToCut",
        "failed", "wasStopped", "undoDepth", "formatTranscript", "formatShot", "formattedByte",
        "errorOffset", "errorKind"};
    private static final String[] ACTIONS = {"cut", "cutWord", "restore", "move", "setHandles",
        "runScript", "undo"};
    // Their first parameter is a frame or an offset.
    private static final String FRAMES = "blockAt speakersAt sourceOf heard shotsToCut formattedByte";
    private static final Map<String, Method> FACE = methodsOf(TranscriptCutter.class);
    private static final Map<String, Method> MODEL = methodsOf(Model.class);

    private static final String[] TEXTS = {"a", "b", "c", "d", "ab", "zz"};
    private static final String[] NAMES = {"ann", "bo", "word", "zzzzzz"};
    private static final int[] ODD = {-1, -2, Integer.MIN_VALUE, Integer.MAX_VALUE, 900, 99999};

    private final Random dice;
    private final TranscriptCutter x = new TranscriptCutter();
    private final Model model = new Model();

    private ModelTest(long seed) {
        dice = new Random(seed);
    }

    static void run(int objects) {
        for (int seed = 1; seed <= objects; seed++) {
            new ModelTest(seed).runOne(seed);
        }
    }

    private void runOne(int seed) {
        for (int calls = 0; calls < 400; ) {
            int kind = dice.nextInt(100);
            String call;
            String answer;
            String due;
            if (calls == 0 || kind == 0) {
                String text = spoil(text());
                Check.fill(x, text);
                calls += text.length() / 20 + 3;
                call = "load " + text;
                answer = answerOf(x::load) + error(x.errorKind(), x.errorOffset());
                due = answerOf(() -> model.load(text)) + error(model.errorKind(), model.errorOffset());
            } else if (kind < 4) {
                String script = spoil(script(0));
                Check.fill(x, script);
                calls += script.length() / 20 + 3;
                call = "loadScript " + script;
                answer = answerOf(x::loadScript) + error(x.errorKind(), x.errorOffset());
                due = answerOf(() -> model.loadScript(script))
                        + error(model.errorKind(), model.errorOffset());
            } else {
                String method = of(dice, kind < 30 ? ACTIONS : QUESTIONS);
                Object[] parameters = parametersOf(method);
                calls++;
                call = method + " of " + Arrays.toString(parameters);
                answer = answerOf(() -> ask(x, FACE.get(method), parameters));
                due = answerOf(() -> ask(model, MODEL.get(method), parameters));
            }
            Check.due("seed " + seed + ": " + call, answer, due);
        }
    }

    private static String error(int kind, int offset) {
        return " error " + kind + " at " + offset;
    }

    private static String answerOf(Check.Call call) {
        int[] answer = {0};
        String thrown = Check.thrownBy(() -> answer[0] = call.answer());
        return thrown.equals(Check.NOTHING) ? "" + answer[0] : thrown;
    }

    // ---- what is called with what

    private static Map<String, Method> methodsOf(Class<?> one) {
        Map<String, Method> all = new HashMap<>();
        for (Method method : one.getDeclaredMethods()) {
            all.put(method.getName(), method);
        }
        return all;
    }

    /** The answer, a boolean as 1 or 0. */
    private static int ask(Object object, Method method, Object[] parameters) {
        try {
            Object answer = method.invoke(object, parameters);
            return answer instanceof Boolean ? ((Boolean) answer ? 1 : 0) : (Integer) answer;
        } catch (InvocationTargetException e) {
            throw (RuntimeException) e.getCause();
        } catch (IllegalAccessException e) {
            throw new AssertionError(e);
        }
    }

    private Object[] parametersOf(String method) {
        Object[] all = new Object[FACE.get(method).getParameterCount()];
        for (int k = 0; k < all.length; k++) {
            all[k] = k == 0 && FRAMES.contains(method) && dice.nextInt(20) > 0
                    ? dice.nextInt(270) : parameter();
        }
        if (method.equals("restore") && dice.nextBoolean() && (Integer) all[0] < 40) {
            all[1] = (Integer) all[0] + dice.nextInt(8);
        }
        return all;
    }

    private int parameter() {
        int kind = dice.nextInt(40);
        if (kind == 0) {
            return ODD[dice.nextInt(ODD.length)];
        }
        if (kind < 4) {
            return dice.nextInt(60);
        }
        return kind < 25 ? dice.nextInt(7) - 1 : dice.nextInt(25);
    }

    // ---- texts

    private static String of(Random dice, String[] all) {
        return all[dice.nextInt(all.length)];
    }

    private String text() {
        StringBuilder text = new StringBuilder();
        if (dice.nextInt(4) > 0) {
            text.append("length ").append(120 + dice.nextInt(130)).append(';');
        }
        if (dice.nextBoolean()) {
            text.append("handle ").append(dice.nextInt(30)).append(';');
        }
        int speakers = 1 + dice.nextInt(4);
        for (int k = 0; k < speakers; k++) {
            text.append("speaker ").append(NAMES[k]).append(";\n");
        }
        int texts = 1 + dice.nextInt(TEXTS.length);
        int breaths = dice.nextInt(13);
        for (int k = 0; k < breaths; k++) {
            int start = dice.nextInt(130);
            text.append("breath ").append(start).append(' ')
                    .append(start + 1 + dice.nextInt(dice.nextInt(9) == 0 ? 100 : 9)).append(';');
        }
        int most = dice.nextInt(42);
        int gap = 1 + dice.nextInt(8);
        // Each speaker's words follow each other; the speakers take turns in the text.
        int[] free = new int[4];
        for (int k = 0; k < most && text.length() < 860; k++) {
            int speaker = dice.nextInt(speakers);
            int start = free[speaker] + dice.nextInt(gap * speakers);
            int end = start + 1 + dice.nextInt(7);
            if (end > 120) {
                continue;
            }
            free[speaker] = end;
            text.append("word ").append(NAMES[speaker]).append(' ')
                    .append(TEXTS[dice.nextInt(texts)]).append(' ').append(start).append(' ')
                    .append(end).append(';');
        }
        return text.toString();
    }

    private String phrase() {
        StringBuilder text = new StringBuilder("(").append(of(dice, TEXTS));
        while (dice.nextInt(5) == 0) {
            text.append(' ').append(of(dice, TEXTS));
        }
        return text.append(')').toString();
    }

    private String script(int depth) {
        StringBuilder text = new StringBuilder();
        int commands = dice.nextInt(depth == 0 ? 8 : 4);
        for (int k = 0; k < commands; k++) {
            int kind = dice.nextInt(depth > 4 ? 4 : 7);
            if (kind < 3) {
                text.append(new String[] {"cut ", "clean", "restore "}[kind]).append(phrase()).append(";");
            } else if (kind == 3) {
                text.append("move ").append(phrase()).append("behind ").append(phrase()).append(";\n");
            } else if (kind == 4) {
                text.append("repeat ").append(1 + dice.nextInt(9)).append('{')
                        .append(script(depth + 1)).append('}');
            } else {
                text.append("if ").append(phrase()).append(" {").append(script(depth + 1)).append('}');
                if (kind == 6) {
                    text.append(" else{").append(script(depth + 1)).append("} ");
                }
            }
        }
        return text.toString();
    }

    /** Often the text itself, otherwise with a small thing wrong; of 900 bytes at most. */
    private String spoil(String text) {
        String part = text;
        int kind = dice.nextInt(10);
        int at = dice.nextInt(part.length() + 1);
        if (kind == 0) {
            part = part.substring(0, at);
        } else if (kind == 1 && at < part.length()) {
            part = part.substring(0, at) + part.substring(at + 1);
        } else if (kind == 2) {
            String signs = "az09 ;(){}\t#A";
            part = part.substring(0, at) + signs.charAt(dice.nextInt(signs.length()))
                    + part.substring(at);
        } else if (kind == 3) {
            int from = dice.nextInt(part.length() + 1);
            part = part.substring(0, at) + part.substring(from);
        }
        return part.length() > 900 ? part.substring(0, 900) : part;
    }
}
