import java.io.IOException;
import java.io.UncheckedIOException;
import java.nio.file.Files;
import java.nio.file.Path;

/** ../shared/DOC.md, so that a test can't name a sentence that is not, or no longer, in it. */
final class Document {
    static final int PROMISES = 19;

    private static final String TEXT = read();
    private static final String PROMISE = "## Promise ";

    private Document() {
    }

    private static String read() {
        try {
            return Files.readString(Path.of("../shared/DOC.md")).replaceAll("\\s+", " ");
        } catch (IOException e) {
            throw new UncheckedIOException(e);
        }
    }

    /** Whether it stands under the heading of that promise, or ahead of all the promises. */
    static boolean says(int promise, String sentence) {
        String terms = TEXT.substring(0, TEXT.indexOf(PROMISE + "1:"));
        return terms.contains(sentence) || under(promise).contains(sentence);
    }

    private static String under(int promise) {
        int start = TEXT.indexOf(PROMISE + promise + ":");
        int end = TEXT.indexOf("## ", start + 1);
        return start < 0 || end < 0 ? "" : TEXT.substring(start, end);
    }
}
