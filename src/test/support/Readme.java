import java.io.IOException;
import java.nio.file.Files;
import java.nio.file.Path;
import java.util.ArrayList;
import java.util.List;
import java.util.regex.Matcher;
import java.util.regex.Pattern;

/** README.md, and what stands in its fences. */
final class Readme {
    private Readme() {
    }

    static String text() throws IOException {
        return Files.readString(Path.of("README.md"));
    }

    /** What stands between a line of three ticks with this word and the next three. */
    static List<String> fences(String word) throws IOException {
        Matcher fence = Pattern.compile("(?ms)^```" + word + "\\n(.*?)^```$").matcher(text());
        List<String> found = new ArrayList<>();
        while (fence.find()) {
            found.add(fence.group(1));
        }
        return found;
    }
}
