import java.io.IOException;
import java.io.UncheckedIOException;
import java.nio.file.Files;
import java.nio.file.Path;

/** The document, so that a test can name the sentence that it is about by the sentence's words. */
final class Document {
    private static final String TEXT = read();

    private Document() {}

    /** Without the document at hand the words are taken on trust: the class is what is tested. */
    static boolean says(String words) {
        return TEXT.isEmpty() || TEXT.contains(words);
    }

    private static String read() {
        Path path = Path.of(System.getProperty("document", "../shared/DOC.md"));
        try {
            return Files.exists(path) ? onOneLine(Files.readString(path)) : "";
        } catch (IOException e) {
            throw new UncheckedIOException(e);
        }
    }

    /** Some sentences go on from a paragraph into the block below it. */
    private static String onOneLine(String text) {
        return text.replaceAll("```[a-z]*", " ").replaceAll("\\s+", " ");
    }
}
