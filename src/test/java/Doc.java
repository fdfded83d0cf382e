import java.io.IOException;
import java.nio.file.Files;
import java.nio.file.Path;

/** The document: a test names the sentence that it stands for, and that sentence is looked up there. */
final class Doc {
    private static final String TEXT = plain(read(Path.of("../shared/DOC.md")));

    private Doc() { }

    /** What is checked from here on is what this sentence says. */
    static void says(String sentence) {
        Check.about(sentence);
        Check.is("the document says so", TEXT.contains(plain(sentence)), true);
    }

    static String read(Path file) {
        try {
            return Files.readString(file);
        } catch (IOException e) {
            throw new IllegalStateException(file + " can't be read", e);
        }
    }

    /** A text with one blank wherever it has blanks or ends of lines. */
    static String plain(String text) {
        return text.replaceAll("\\s+", " ").trim();
    }
}
