import java.io.IOException;
import java.nio.file.Files;
import java.nio.file.Path;
import java.util.List;
import java.util.regex.MatchResult;
import java.util.regex.Pattern;

/** README.md by its blocks of code. */
final class Readme {
    private Readme() {
    }

    /** All blocks that are marked as this language, in order. */
    static List<String> blocks(String language) throws IOException {
        return Pattern.compile("(?ms)^```" + language + "\n(.*?)^```$").matcher(Files.readString(Path.of("README.md")))
            .results().map((MatchResult block) -> block.group(1)).toList();
    }
}
