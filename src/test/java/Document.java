import java.io.IOException;
import java.io.UncheckedIOException;
import java.nio.file.Files;
import java.nio.file.Path;
import java.util.ArrayList;
import java.util.BitSet;
import java.util.List;

/** ../shared/DOC.md, so that a test can't name a sentence that is not, or no longer, in it. */
final class Document {
    static final int PROMISES = 19;

    private static final String TEXT = read();
    private static final String HEADING = "## ";
    private static final BitSet NAMED = new BitSet();

    private Document() {
    }

    private static String read() {
        try {
            return Files.readString(Path.of("../shared/DOC.md")).replaceAll("\\s+", " ");
        } catch (IOException e) {
            throw new UncheckedIOException(e);
        }
    }

    /**
     * Whether it stands under the heading of that promise, or ahead of all the promises. Where it
     * does, it is from then on one that a test has named.
     */
    static boolean says(int promise, String sentence) {
        int start = TEXT.indexOf(HEADING + "Promise " + promise + ":");
        int end = TEXT.indexOf(HEADING, start + 1);
        return start >= 0 && (name(start, end, sentence) || name(0, promisesStart(), sentence));
    }

    private static int promisesStart() {
        return TEXT.indexOf(HEADING + "Promise 1:");
    }

    private static boolean name(int start, int end, String sentence) {
        boolean found = false;
        for (int at = TEXT.indexOf(sentence, start); at >= 0 && at + sentence.length() <= end; at = TEXT.indexOf(sentence, at + 1)) {
            NAMED.set(at, at + sentence.length());
            found = true;
        }
        return found;
    }

    /** The members of the class as "The public face" has them, without the names of parameters. */
    static List<String> face() {
        String open = "public final class StreamDesk {";
        int start = TEXT.indexOf(open) + open.length();
        String members = TEXT.substring(start, TEXT.indexOf("}", start));
        List<String> face = new ArrayList<>();
        for (String member : members.split(";")) {
            if (!member.isBlank()) {
                face.add(member.strip().replaceAll("(int|long) \\w+(?=[,)])", "$1"));
            }
        }
        return face;
    }

    /** What of the document no test has named so far, from THE PACKET up to "Not promised". */
    static List<String> unnamed() {
        List<String> rest = new ArrayList<>();
        int end = TEXT.indexOf(HEADING + "Not promised");
        int at = TEXT.indexOf("THE PACKET has");
        while (at < end) {
            int from = NAMED.nextClearBit(at);
            at = NAMED.nextSetBit(from);
            at = at < 0 || at > end ? end : at;
            rest.add(TEXT.substring(Math.min(from, end), at).strip());
        }
        return rest;
    }
}
