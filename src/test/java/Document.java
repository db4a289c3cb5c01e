import java.io.IOException;
import java.nio.file.Files;
import java.nio.file.Path;
import java.util.Set;
import java.util.TreeSet;

/** The document: a test names the sentence that it stands for, and that sentence must be found there. */
final class Document {
    private static final Path PLACE = Path.of("../shared/DOC.md");
    private static final int PROMISES = 39;

    private final Due due;
    private final String text;
    private final Set<Integer> named = new TreeSet<>();

    Document(Due due) throws IOException {
        this.due = due;
        this.text = Files.readString(PLACE).replaceAll("\\s+", " ");
    }

    /** A sentence that stands ahead of all promises. */
    void term(String sentence) {
        names(sentence, text.substring(0, placeOf(1)));
    }

    /** A sentence of promise n. */
    void promise(int n, String sentence) {
        named.add(n);
        int end = n < PROMISES ? placeOf(n + 1) : text.indexOf("## Not promised");
        names(sentence, text.substring(placeOf(n), end));
    }

    private int placeOf(int n) {
        return text.indexOf("## Promise " + n + ":");
    }

    private void names(String sentence, String part) {
        due.about(sentence);
        due.is("that the document says it", part.contains(sentence), true);
    }

    void allPromisesAreNamed() {
        due.about("");
        due.is("promises that a test stands for", named.size(), PROMISES);
    }
}
