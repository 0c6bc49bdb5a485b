import java.lang.reflect.InvocationTargetException;
import java.lang.reflect.Method;
import java.util.ArrayList;
import java.util.Comparator;
import java.util.List;
import java.util.regex.Matcher;
import java.util.regex.Pattern;

/**
 * Runs the tests of the edges: in the classes below each method with @Says. Its name begins with its
 * promise, or with the part of the description that it is about, and @Says has the words there.
 */
final class EdgeTest {
    private static final Class<?>[] PARTS = {InputEdges.class, TextEdges.class, ScriptEdges.class,
        RecordingEdges.class, FilmEdges.class, TranscriptEdges.class, ActionEdges.class,
        RunEdges.class, UndoEdges.class, FormatEdges.class};
    private static final Pattern NAME = Pattern.compile("(?:promise(\\d\\d)|[a-z]\\w*)_\\w+");

    private EdgeTest() {
    }

    static void run() {
        Document document = Document.read();
        boolean[] tested = new boolean[document.promises() + 1];
        for (Class<?> part : PARTS) {
            for (Method test : testsOf(part)) {
                Check.within(part.getSimpleName() + "." + test.getName() + ": ");
                int promise = promiseOf(test);
                tested[promise] = true;
                for (String words : test.getAnnotation(Says.class).value()) {
                    Check.due("the document says '" + words + "'", document.says(promise, words), true);
                }
                Check.due("the test throws", thrownBy(test), Check.NOTHING);
            }
        }
        Check.within("");
        for (int promise = 0; promise < tested.length; promise++) {
            Check.due("promise " + promise + " has a test of an edge", tested[promise], true);
        }
    }

    private static List<Method> testsOf(Class<?> part) {
        List<Method> tests = new ArrayList<>();
        for (Method method : part.getDeclaredMethods()) {
            if (method.isAnnotationPresent(Says.class)) {
                tests.add(method);
            }
        }
        tests.sort(Comparator.comparing(Method::getName));
        return tests;
    }

    private static int promiseOf(Method test) {
        Matcher name = NAME.matcher(test.getName());
        Check.due("the name tells what is tested", name.matches(), true);
        return name.matches() && name.group(1) != null ? Integer.parseInt(name.group(1)) : 0;
    }

    private static String thrownBy(Method test) {
        try {
            test.invoke(null);
            return Check.NOTHING;
        } catch (InvocationTargetException e) {
            return e.getCause().toString();
        } catch (IllegalAccessException e) {
            return e.toString();
        }
    }
}
