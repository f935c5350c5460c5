import java.io.IOException;
import java.nio.charset.StandardCharsets;
import java.nio.file.Files;
import java.nio.file.Path;
import java.util.Arrays;
import java.util.Map;
import java.util.Set;
import java.util.TreeMap;
import java.util.TreeSet;
import java.util.regex.Matcher;
import java.util.regex.Pattern;
import java.util.stream.Collectors;
import java.util.stream.Stream;

/** What README.md says of the class and of its tests holds of them as they stand. */
public final class ReadmeTest {
    private static final Path TESTS = Path.of("src/test/java");

    private final Check check = new Check();
    private final Document document = new Document();
    private final String readme;

    private ReadmeTest(String readme) {
        this.readme = readme;
    }

    public static void main(String[] args) throws IOException, InterruptedException {
        ReadmeTest test = new ReadmeTest(Files.readString(Path.of("README.md")));
        test.exampleRuns();
        test.constants();
        test.calls();
        test.classesInside();
        test.tests();
        test.filesNamed();
        test.check.end();
    }

    private void same(String what, Object said, Object is) {
        check.holds(what + ": README.md says " + said + ", it is " + is, said.equals(is));
    }

    /** The lines of the first block of this language. */
    private String block(String language) {
        Matcher m = Pattern.compile("(?s)```" + language + "\n(.*?)```").matcher(readme);
        check.holds("README.md has a block of " + language, m.find());
        return m.group(1);
    }

    private void exampleRuns() throws IOException, InterruptedException {
        Path folder = Files.createTempDirectory("readme");
        Path source = Files.writeString(folder.resolve("Example.java"), block("java"));
        Process run = new ProcessBuilder(Path.of(System.getProperty("java.home"), "bin", "java").toString(),
                "-cp", System.getProperty("java.class.path"), source.toString())
                .redirectErrorStream(true).start();
        String printed = new String(run.getInputStream().readAllBytes(), StandardCharsets.UTF_8);
        check.due("the example's exit code", run.waitFor(), 0);
        same("what the example prints", block("text"), printed.replace("\r\n", "\n"));
        Files.delete(source);
        Files.delete(folder);
    }

    /** What stands in the cells of the rows of a table, by the first one of them that is quoted. */
    private Map<String, String[]> table(String heading) {
        int start = readme.indexOf(heading);
        check.holds("README.md has a table with " + heading, start >= 0);
        Map<String, String[]> rows = new TreeMap<>();
        for (String line : readme.substring(Math.max(start, 0)).split("\n")) {
            if (!line.startsWith("|")) {
                break;
            }
            String[] cells = line.split(" *\\| *");
            for (String cell : cells) {
                if (cell.matches("`[^`]*`") && !line.startsWith(heading)) {
                    rows.put(cell.replace("`", ""), cells);
                    break;
                }
            }
        }
        return rows;
    }

    private void constants() {
        Map<String, Integer> said = new TreeMap<>();
        table("| constant |").forEach((name, cells) -> said.put(name, Integer.valueOf(cells[2])));
        same("constants", said, document.constants());
    }

    private void calls() {
        Map<String, String[]> rows = table("| promise | call |");
        Set<String> due = new TreeSet<>();
        for (String method : document.methods()) {
            due.add(method.replaceAll("\\b(int|long) ", ""));
        }
        same("calls", rows.keySet(), due);
        rows.forEach((call, cells) -> {
            String title = "Promise " + cells[1] + ": " + call.substring(0, call.indexOf('(')) + " `";
            check.holds(title, document.says(Integer.parseInt(cells[1]), title));
        });
    }

    private void classesInside() {
        Set<String> due = Arrays.stream(SelfishWays.class.getDeclaredClasses())
                .map(Class::getSimpleName).collect(Collectors.toCollection(TreeSet::new));
        same("classes inside", table("| class inside |").keySet(), due);
    }

    private void tests() throws IOException {
        try (Stream<Path> files = Files.list(TESTS)) {
            Set<String> due = files.map(f -> f.getFileName().toString())
                    .filter(name -> name.endsWith("Test.java"))
                    .map(name -> name.replace(".java", "")).collect(Collectors.toCollection(TreeSet::new));
            same("tests", table("| test in `src/test/java` |").keySet(), due);
        }
    }

    private void filesNamed() {
        check.holds(".ci/run can be run", Files.isExecutable(Path.of(".ci/run")));
        Matcher m = Pattern.compile("(?:\\.\\./shared|src)/[\\w/]+(?:\\.\\w+)?").matcher(readme);
        while (m.find()) {
            check.holds(m.group() + " is there", Files.exists(Path.of(m.group())));
        }
    }
}
