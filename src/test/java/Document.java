import java.io.IOException;
import java.io.UncheckedIOException;
import java.nio.file.Files;
import java.nio.file.Path;
import java.util.HashMap;
import java.util.Map;
import java.util.regex.Matcher;
import java.util.regex.Pattern;

/** The words of ../shared/DOC.md: those of each promise, and all else, which the promises share. */
final class Document {
    private static final Path FILE = Path.of("../shared/DOC.md");
    private static final Pattern TITLE = Pattern.compile("Promise (\\d+): ");

    private final Map<Integer, String> promises = new HashMap<>();
    private final StringBuilder shared = new StringBuilder();

    Document() {
        for (String section : text().split("(?m)^## ")) {
            String words = section.replaceAll("\\s+", " ");
            Matcher title = TITLE.matcher(words);
            if (title.lookingAt()) {
                promises.put(Integer.valueOf(title.group(1)), words);
            } else {
                shared.append(words);
            }
        }
    }

    private static String text() {
        try {
            return Files.readString(FILE);
        } catch (IOException e) {
            throw new UncheckedIOException(e);
        }
    }

    /** Whether the promise has these words, or the terms that it uses; " ... " leaves some out. */
    boolean says(int promise, String words) {
        String own = promises.getOrDefault(promise, "");
        for (String part : words.split(" \\.\\.\\. ")) {
            if (!own.contains(part) && shared.indexOf(part) < 0) {
                return false;
            }
        }
        return promises.containsKey(promise);
    }
}
