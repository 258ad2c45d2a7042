/**
 * Every sentence of the document from "THE PACKET" up to "Not promised" is named by a test of the
 * edges: these are run here once more, all in one machine, and what is left over is looked at.
 */
public final class SentencesTest {
    /** What stands between the sentences and promises nothing by itself. */
    private static final String[] NO_SENTENCES = {
        "## Terms", "## The public face ```java .*?```", "## Promise \\d+: [A-Za-z ]+ `[^`]*`:", "```(text)?",
        "======== [1-4]( REPORTS\\.)?", "Ahead of the calls [`a-z, ]+ the interface says: ---- [a-z ]+\\."};

    public static void main(String[] args) {
        EdgesOfThePacketTest.main(args);
        EdgesOfDataTest.main(args);
        EdgesOfNumbersTest.main(args);
        EdgesOfPlayingTest.main(args);
        EdgesOfReportsTest.main(args);
        EdgesOfCountsTest.main(args);
        Check.noPromise();
        for (String rest : Document.unnamed()) {
            String words = rest;
            for (String other : NO_SENTENCES) {
                words = words.replaceAll(other, "");
            }
            Check.holds("a test names \"" + words.strip() + "\"", words.matches("[ ,;:.]*"));
        }
        Check.end();
    }
}
