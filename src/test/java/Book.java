import java.io.IOException;
import java.nio.file.Files;
import java.nio.file.Path;

/** The document by promises: each sentence that a test is for must really stand there. */
final class Book {
    private static final int PROMISES = 50;

    private final Due due;
    private final String terms;
    private final String[] promises = new String[PROMISES + 1];
    private final int[] sentences = new int[PROMISES + 1];
    private int lookedBefore = 0;
    private String sentence = null;

    Book(Due due) throws IOException {
        this.due = due;
        String doc = Files.readString(Path.of("../shared/DOC.md")).replaceAll("\\s+", " ");
        terms = doc.substring(doc.indexOf("## Terms"), doc.indexOf("## Promise 1:"));
        for (int n = 1; n <= PROMISES; n++) {
            String next = n < PROMISES ? "## Promise " + (n + 1) + ":" : "## Not promised";
            promises[n] = doc.substring(doc.indexOf("## Promise " + n + ":"), doc.indexOf(next));
        }
    }

    /** What is looked at from here on is for this sentence of a promise, or of the terms that it uses. */
    void says(int promise, String told) {
        closeSentence();
        due.about("promise " + promise + ", '" + told + "': ");
        due.is("stands in the document", promises[promise].contains(told) || terms.contains(told), true);
        sentence = told;
        lookedBefore = due.looked();
        sentences[promise]++;
    }

    /** Every sentence was looked at, and every promise has one. */
    void close() {
        closeSentence();
        due.about("");
        for (int n = 1; n <= PROMISES; n++) {
            due.is("promise " + n + " has a sentence", sentences[n] > 0, true);
        }
    }

    private void closeSentence() {
        if (sentence != null) {
            due.is("something is looked at", due.looked() > lookedBefore, true);
        }
    }
}
