import java.io.IOException;
import java.nio.file.Files;
import java.nio.file.Path;
import java.util.ArrayList;
import java.util.List;

/** The document's text, to look up whether it has the words that a test is about. */
final class Document {
    private final String[] promises;

    static Document read() {
        try {
            return new Document("../shared/DOC.md");
        } catch (IOException e) {
            throw new IllegalStateException("../shared/DOC.md cannot be read", e);
        }
    }

    private Document(String file) throws IOException {
        promises = Files.readString(Path.of(file)).split("\n## Promise \\d+: ");
        for (int k = 0; k < promises.length; k++) {
            promises[k] = plain(promises[k]);
        }
    }

    int promises() {
        return promises.length - 1;
    }

    /** Whether the promise has these words; 0 stands for all that comes before promise 1. */
    boolean says(int promise, String words) {
        return promise < promises.length && promises[promise].contains(plain(words));
    }

    /** What the class has by the section "The public face": a constant, constructor or method each. */
    List<String> face() {
        String head = "public final class TranscriptCutter {";
        String before = promises[0];
        int start = before.indexOf(head) + head.length();
        List<String> members = new ArrayList<>();
        for (String member : before.substring(start, before.indexOf('}', start)).split(";")) {
            if (!member.isBlank()) {
                members.add(member.trim());
            }
        }
        return members;
    }

    static String plain(String text) {
        return text.replace("`", "").replaceAll("\\s+", " ");
    }
}
