import java.io.IOException;
import java.io.UncheckedIOException;
import java.nio.file.Files;
import java.nio.file.Path;
import java.util.regex.Matcher;
import java.util.regex.Pattern;

/** The document, with white space folded to one blank, so that a quote may go over the end of a line. */
final class Document {
    static final Path PLACE = Path.of("../shared/DOC.md");

    private static final String FOLDED = folded(text());

    private Document() {
    }

    static String text() {
        try {
            return Files.readString(PLACE);
        } catch (IOException unread) {
            throw new UncheckedIOException(unread);
        }
    }

    static String folded(String text) {
        return text.replaceAll("\\s+", " ").trim();
    }

    static boolean says(String quote) {
        return FOLDED.contains(quote);
    }

    /** "Terms" without its headings and fences: THE CALENDAR, TICKS, WHAT COMES OF IT, REFUSALS. */
    static String terms() {
        Matcher part = Pattern.compile("(?s)\n## Terms\n(.*?)\n## ").matcher(text());
        return part.find() ? folded(part.group(1).replaceAll("(?m)^(====.*|```.*)$", "")) : "";
    }

    /** What a promise says behind its heading and the call that it is about. */
    static String promise(int number) {
        Matcher part = Pattern.compile("(?s)\n## Promise " + number + ": .*?\n+`.*?`: (.*?)\n## ").matcher(text());
        return part.find() ? folded(part.group(1)) : "";
    }
}
