import java.io.IOException;
import java.nio.file.Files;
import java.nio.file.Path;

/** The sentence of the document that names the boundary being tested, and the promises it counts for. */
final class Sentence {
    private static final int PROMISES = 36;
    private static final Path DOCUMENT = Path.of("../shared/DOC.md");
    private static final boolean[] TESTED = new boolean[PROMISES + 1];
    private static final String TEXT = text();

    private Sentence() {
    }

    /** The answers that follow are due by these words; promises as in "2 3 15-18". */
    static void of(String promises, String words) {
        Check.about("promise " + promises + ", \"" + words + "\": ");
        for (String part : promises.split(" ")) {
            String[] ends = part.split("-");
            for (int promise = Integer.parseInt(ends[0]); promise <= Integer.parseInt(ends[ends.length - 1]); promise++) {
                TESTED[promise] = true;
            }
        }
        Check.due("stands in the document", TEXT.isEmpty() || TEXT.contains(words), true);
    }

    /** Each promise must have had a sentence. */
    static void end() {
        Check.about("");
        for (int promise = 1; promise <= PROMISES; promise++) {
            Check.due("promise " + promise + " was tested", TESTED[promise], true);
        }
    }

    /** The document with single blanks; empty where it can't be read, for then its words can't be looked up. */
    private static String text() {
        try {
            return Files.readString(DOCUMENT).replaceAll("\\s+", " ");
        } catch (IOException e) {
            System.out.println("no document at " + DOCUMENT);
            return "";
        }
    }
}
