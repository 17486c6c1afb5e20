import java.io.IOException;
import java.nio.file.Files;
import java.nio.file.Path;
import java.util.ArrayList;
import java.util.Arrays;
import java.util.List;

/** The document's words: its promises and its terms, and which of them a test has quoted. */
final class Document {
    static final int PROMISES = 25;
    /** In place 0 the terms, then the promises by their numbers; blanks folded into one. */
    private final List<String> parts = new ArrayList<>();
    private final List<boolean[]> quoted = new ArrayList<>();

    Document() throws IOException {
        String text = Files.readString(Path.of("../shared/DOC.md")).replace("```text", " ").replace("```", " ");
        String intro = between(text, "======== 1 ", "## The public face");
        String terms = between(text, "## Terms", "Ahead of the calls");
        add(intro + " " + terms.replaceAll("======== \\d", " "));
        for (int n = 1; n <= PROMISES; n++) {
            String behind = n < PROMISES ? "## Promise " + (n + 1) + ":" : "## Not promised";
            String section = between(text, "## Promise " + n + ":", behind);
            add(section.substring(section.indexOf(")`:") + 3));
        }
    }

    private void add(String part) {
        String folded = part.replaceAll("\\s+", " ").trim();
        parts.add(folded);
        quoted.add(new boolean[folded.length()]);
    }

    private static String between(String text, String from, String to) {
        int begin = text.indexOf(from);
        int end = text.indexOf(to, begin + 1);
        if (begin < 0 || end < 0) {
            throw new IllegalStateException("the document has no " + (begin < 0 ? from : to));
        }
        return text.substring(begin + from.length(), end);
    }

    /** Marks the words in those of the promises that have them, in the terms if none has; false: nobody has. */
    boolean quote(int[] promises, String words) {
        boolean found = false;
        for (int promise : promises) {
            found |= quoteIn(promise, words);
        }
        return found || quoteIn(0, words);
    }

    private boolean quoteIn(int part, String words) {
        String text = parts.get(part);
        int at = text.indexOf(words);
        boolean found = at >= 0;
        while (at >= 0) {
            Arrays.fill(quoted.get(part), at, at + words.length(), true);
            at = text.indexOf(words, at + 1);
        }
        return found;
    }

    /** What of a part no test has quoted, but for signs that are no letters. */
    String notQuoted(int part) {
        StringBuilder left = new StringBuilder(parts.get(part));
        for (int i = 0; i < left.length(); i++) {
            if (quoted.get(part)[i]) {
                left.setCharAt(i, ' ');
            }
        }
        String words = left.toString().replaceAll("\\s+", " ").trim();
        return words.matches(".*[A-Za-z0-9].*") ? words : "";
    }
}
