import java.io.IOException;
import java.io.UncheckedIOException;
import java.nio.charset.StandardCharsets;
import java.nio.file.Files;
import java.nio.file.Path;

/** The document, so that a test can show that its sentence stands there. */
final class Document {
    private static final String TEXT = read(Path.of("..", "shared", "DOC.md"));
    private static final String FIRST_PROMISE = "## Promise 1:";

    private Document() {
    }

    /** Whether the words stand under the promise, or in the part that stands ahead of all promises. */
    static boolean says(int promise, String words) {
        String ahead = TEXT.substring(0, TEXT.indexOf(FIRST_PROMISE));
        return ahead.contains(words) || under(promise).contains(words);
    }

    private static String under(int promise) {
        int start = TEXT.indexOf("## Promise " + promise + ":");
        int end = start < 0 ? -1 : TEXT.indexOf("## ", start + FIRST_PROMISE.length());
        return end < 0 ? "" : TEXT.substring(start, end);
    }

    /** In one line and without the signs that mark its code. */
    private static String read(Path path) {
        try {
            return Files.readString(path, StandardCharsets.UTF_8).replace("`", "").replaceAll("\\s+", " ");
        } catch (IOException e) {
            throw new UncheckedIOException(e);
        }
    }
}
