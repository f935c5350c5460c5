import java.io.IOException;
import java.io.UncheckedIOException;
import java.nio.file.Files;
import java.nio.file.Path;
import java.util.HashMap;
import java.util.Map;
import java.util.Set;
import java.util.TreeMap;
import java.util.TreeSet;
import java.util.regex.Matcher;
import java.util.regex.Pattern;

/** The words of ../shared/DOC.md: those of each promise, and all else, which the promises share. */
final class Document {
    private static final Path FILE = Path.of("../shared/DOC.md");
    private static final Pattern TITLE = Pattern.compile("Promise (\\d+): ");
    private static final Pattern METHOD = Pattern.compile("public (\\w+ \\w+\\([^)]*\\));");
    private static final Pattern CONSTANTS = Pattern.compile("public static final int ([^;]*);");

    private final Map<Integer, String> promises = new HashMap<>();
    private final StringBuilder shared = new StringBuilder();

    Document() {
        for (String section : text().split("(?m)^## ")) {
            String words = section.replaceAll("\\s+", " ");
            Matcher title = TITLE.matcher(words);
            if (title.lookingAt()) {
                promises.put(Integer.valueOf(title.group(1)), words);
            } else {
                shared.append(words);
            }
        }
    }

    private static String text() {
        try {
            return Files.readString(FILE);
        } catch (IOException e) {
            throw new UncheckedIOException(e);
        }
    }

    /** Whether the promise has these words, or the terms that it uses; " ... " leaves some out. */
    boolean says(int promise, String words) {
        String own = promises.getOrDefault(promise, "");
        for (String part : words.split(" \\.\\.\\. ")) {
            if (!own.contains(part) && shared.indexOf(part) < 0) {
                return false;
            }
        }
        return promises.containsKey(promise);
    }

    /** The methods of the public face, such as "int pay(int player, int way)". */
    Set<String> methods() {
        Set<String> found = new TreeSet<>();
        Matcher method = METHOD.matcher(shared);
        while (method.find()) {
            found.add(method.group(1));
        }
        return found;
    }

    /** The constants of the public face with what they are. */
    Map<String, Integer> constants() {
        Map<String, Integer> found = new TreeMap<>();
        Matcher row = CONSTANTS.matcher(shared);
        while (row.find()) {
            for (String one : row.group(1).split(", ")) {
                String[] sides = one.split(" = ");
                found.put(sides[0], Integer.valueOf(sides[1]));
            }
        }
        return found;
    }
}
