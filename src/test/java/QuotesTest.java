import java.io.IOException;
import java.nio.file.Files;
import java.nio.file.Path;
import java.util.ArrayList;
import java.util.List;
import java.util.regex.Matcher;
import java.util.regex.Pattern;
import java.util.stream.Stream;

/** Each sentence of "Terms" and of each promise is quoted by a test that holds it at its edges. */
public final class QuotesTest {
    private static final Due due = new Due("QuotesTest");
    private static final Path TESTS = Path.of("src/test/java");
    private static final Pattern SENTENCE =
        Pattern.compile("due\\.sentence\\((\\d+), ((?:\"(?:[^\"\\\\]|\\\\.)*\"\\s*\\+?\\s*)+)\\)");
    private static final Pattern PART = Pattern.compile("\"((?:[^\"\\\\]|\\\\.)*)\"");

    /** A quote and the promise that it is said to belong to. */
    private record Quote(int promise, String text) {
    }

    public static void main(String[] args) throws IOException {
        List<Quote> quotes = quotes();
        List<String> all = quotes.stream().map(Quote::text).toList();
        due.promise(1);
        due.isTrue("quotes are found", all.size() > 100);
        String terms = Document.terms();
        due.isTrue("Terms are found", terms.startsWith("DAYS are 0 to n less 1") && terms.endsWith("-6 FULL."));
        quoted("Terms", terms, all);
        for (int number = 1; number <= 65; number++) {
            due.promise(number);
            int promise = number;
            String text = Document.promise(promise);
            due.isTrue("the promise is found", !text.isEmpty());
            quoted("Promise " + promise, text,
                quotes.stream().filter(quote -> quote.promise == promise).map(Quote::text).toList());
        }
        due.end();
    }

    private static List<Quote> quotes() throws IOException {
        List<Quote> quotes = new ArrayList<>();
        try (Stream<Path> files = Files.list(TESTS)) {
            for (Path file : files.filter(path -> path.toString().endsWith("Test.java")).sorted().toList()) {
                Matcher sentence = SENTENCE.matcher(Files.readString(file));
                while (sentence.find()) {
                    StringBuilder text = new StringBuilder();
                    Matcher part = PART.matcher(sentence.group(2));
                    while (part.find()) {
                        text.append(part.group(1));
                    }
                    quotes.add(new Quote(Integer.parseInt(sentence.group(1)), text.toString()));
                }
            }
        }
        return quotes;
    }

    /** No sign of the text but blanks stands outside all quotes. */
    private static void quoted(String where, String text, List<String> quotes) {
        StringBuilder left = new StringBuilder(text);
        for (String quote : quotes) {
            int place = text.indexOf(quote);
            while (place >= 0) {
                for (int i = 0; i < quote.length(); i++) {
                    left.setCharAt(place + i, ' ');
                }
                place = text.indexOf(quote, place + 1);
            }
        }
        String unquoted = Document.folded(left.toString());
        due.isTrue("a test quotes all of " + where + ", not left is: " + unquoted, unquoted.isEmpty());
    }
}
