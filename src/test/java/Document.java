import java.io.IOException;
import java.nio.file.Files;
import java.nio.file.Path;

/** The document's text, to look up whether it has the words that a test is about. */
final class Document {
    private final String[] promises;

    Document(String file) throws IOException {
        promises = Files.readString(Path.of(file)).split("\n## Promise \\d+: ");
        for (int k = 0; k < promises.length; k++) {
            promises[k] = plain(promises[k]);
        }
    }

    int promises() {
        return promises.length - 1;
    }

    /** Whether the promise has these words; 0 stands for all that comes before promise 1. */
    boolean says(int promise, String words) {
        return promise < promises.length && promises[promise].contains(plain(words));
    }

    private static String plain(String text) {
        return text.replace("`", "").replaceAll("\\s+", " ");
    }
}
