import java.io.IOException;
import java.io.UncheckedIOException;
import java.nio.file.Files;
import java.nio.file.Path;

/**
 * The words of ../shared/DOC.md, read from a heading up to another one. A test names them in their
 * order, as they stand there, each ahead of what it asks for them: none may be left out. The code,
 * the headings and the heads of the methods are LanguageTest's.
 */
final class Document {
    private final Checks c;
    private final String words;
    private int read;

    Document(Checks c, String first, String last) {
        this.c = c;
        String text = text();
        int start = text.indexOf(first);
        int end = text.indexOf(last);
        c.part("the document");
        c.due("it has " + first + " and " + last, 0 <= start && start < end, true);
        words = plain(text.substring(Math.max(0, start), Math.max(0, end)));
    }

    private static String text() {
        try {
            return Files.readString(Path.of("../shared/DOC.md"));
        } catch (IOException thrown) {
            throw new UncheckedIOException(thrown);
        }
    }

    private static String plain(String text) {
        return text.replaceAll("(?s)```java.*?```", "")
            .replace("```text", "").replace("```", "")
            .replaceAll("(?m)^#.*$", "")
            .replaceAll("(?m)^`\\w.*?\\)`:", "")
            .replaceAll("\\s+", " ");
    }

    /** Begins what is asked for these words, with a new desk. */
    VeneerDesk says(String sentence) {
        VeneerDesk x = c.part(sentence);
        int start = words.indexOf(sentence, read);
        c.due("the document says so, here", start >= read, true);
        if (start >= read) {
            dueNothing(words.substring(read, start));
            read = start + sentence.length();
        }
        return x;
    }

    void end() {
        c.part("the end");
        dueNothing(words.substring(read));
    }

    private void dueNothing(String leftOut) {
        c.due("words that no test names: \"" + leftOut.strip() + "\"", leftOut.isBlank(), true);
    }
}
