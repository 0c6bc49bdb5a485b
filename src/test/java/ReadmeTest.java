import java.io.IOException;
import java.lang.reflect.InvocationTargetException;
import java.lang.reflect.Method;
import java.lang.reflect.Modifier;
import java.nio.file.Files;
import java.nio.file.Path;
import java.util.regex.Matcher;
import java.util.regex.Pattern;

/** Makes the calls that README.md shows, each of which must answer what stands behind it. */
final class ReadmeTest {
    private static final Pattern FILL = Pattern.compile("fill\\(x, \"(.*)\"\\);");
    private static final Pattern CALL =
            Pattern.compile("x\\.(\\w+)\\(([^()]*)\\); *// (throws )?(-?\\w+).*");

    private ReadmeTest() {
    }

    static void run() {
        Check.within("README.md: ");
        TranscriptCutter x = new TranscriptCutter();
        int calls = 0;
        for (String line : lines()) {
            Matcher fill = FILL.matcher(line);
            Matcher call = CALL.matcher(line);
            if (fill.matches()) {
                Check.fill(x, fill.group(1));
            } else if (call.matches()) {
                String answer = answer(x, call.group(1), call.group(2));
                Check.due(line, answer, due(call.group(3) != null, call.group(4)));
                calls++;
            }
        }
        Check.due("it shows calls", calls > 15, true);
        namesEveryMethod(String.join("\n", lines()));
        Check.within("");
    }

    private static void namesEveryMethod(String text) {
        for (Method method : TranscriptCutter.class.getDeclaredMethods()) {
            String name = method.getName();
            boolean open = Modifier.isPublic(method.getModifiers());
            Check.due("it names " + name, !open || text.contains("`" + name + "`")
                    || text.contains("x." + name + "("), true);
        }
    }

    private static String[] lines() {
        try {
            return Files.readString(Path.of("README.md")).split("\n");
        } catch (IOException e) {
            throw new IllegalStateException("README.md cannot be read", e);
        }
    }

    /** An exception's name stands as it is, a constant's stands for its value. */
    private static String due(boolean thrown, String word) {
        if (thrown || word.matches("-?\\d+|true|false")) {
            return word;
        }
        try {
            return "" + TranscriptCutter.class.getField(word).getInt(null);
        } catch (ReflectiveOperationException e) {
            return "a constant " + word;
        }
    }

    private static String answer(TranscriptCutter x, String name, String list) {
        String[] words = list.isEmpty() ? new String[0] : list.split(", ");
        Object[] parameters = new Object[words.length];
        Class<?>[] types = new Class<?>[words.length];
        for (int k = 0; k < words.length; k++) {
            parameters[k] = Integer.valueOf(words[k]);
            types[k] = int.class;
        }
        try {
            return "" + TranscriptCutter.class.getMethod(name, types).invoke(x, parameters);
        } catch (InvocationTargetException e) {
            return e.getCause().getClass().getSimpleName();
        } catch (ReflectiveOperationException e) {
            return "no method " + name;
        }
    }
}
