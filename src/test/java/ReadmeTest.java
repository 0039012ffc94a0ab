import java.io.IOException;
import java.nio.file.DirectoryStream;
import java.nio.file.Files;
import java.nio.file.Path;
import java.util.ArrayList;
import java.util.List;
import java.util.Map;
import java.util.Set;
import java.util.TreeMap;
import java.util.TreeSet;
import java.util.regex.Matcher;
import java.util.regex.Pattern;

/** README.md: what it says of the calls holds, and it names every call and every test. */
public final class ReadmeTest {
    private static final Due DUE = new Due("ReadmeTest");
    private static final Map<String, Integer> WORDS =
        Map.of("UNKNOWN", -1, "OUTSIDE", -2, "STATE", -3, "FULL", -4, "NO", -5, "NONE", -6);
    private static final int CALLS = 19;

    public static void main(String[] args) throws IOException {
        Path source = Path.of(args.length > 0 ? args[0] : "src/main/java/StageLines.java").toAbsolutePath();
        String document = Files.readString(Path.of(args.length > 1 ? args[1] : "../shared/DOC.md"));
        String readme = Files.readString(Path.of(args.length > 2 ? args[2] : "README.md"));
        example(readme);
        table(readme, document);
        tests(readme, source.getParent().resolveSibling("../test/java"));
        DUE.close();
    }

    /** The rows of the example, on one object; between them every call is shown. */
    private static void example(String readme) {
        Matcher block = Pattern.compile("(?s)```java\n(.*?)```").matcher(readme);
        DUE.holds("no example", block.find());
        StageLines x = new StageLines();
        Set<String> shown = new TreeSet<>();
        for (String line : block.group(1).split("\n")) {
            if (line.isBlank() || line.equals("StageLines x = new StageLines();")) {
                continue;
            }
            Matcher row = Pattern.compile("x\\.(\\w+\\([^)]*\\)); *// .*?\\banswers (-?\\w+).*").matcher(line);
            DUE.holds("a row without an answer: " + line, row.matches());
            if (row.matches()) {
                Call call = Call.read(row.group(1), WORDS);
                shown.add(call.name());
                DUE.due("the example: " + call, call.on(x), Call.number(row.group(2), WORDS));
            }
        }
        DUE.due("calls in the example", shown.size(), CALLS);
    }

    /** The table has the calls with their parameters' names, and their refusals, as the document tells them. */
    private static void table(String readme, String document) {
        Map<String, List<String>> told = new TreeMap<>();
        Matcher promise = Pattern.compile("(?m)^`int (\\w+\\(.*?\\))`: (.*)$").matcher(document);
        while (promise.find()) {
            List<String> words = refusals(promise.group(2), "(UNKNOWN|OUTSIDE|STATE|FULL|NO)(?=[:;.])");
            told.put(promise.group(1).replace("int ", ""), words);
        }
        Map<String, List<String>> found = new TreeMap<>();
        Matcher row = Pattern.compile("(?m)^\\| `(.*?)` \\| .* \\| (.*) \\|$").matcher(readme);
        while (row.find()) {
            found.put(row.group(1), refusals(row.group(2), "[A-Z]+"));
        }
        DUE.due("calls in the document", told.size(), CALLS);
        DUE.holds("the table is " + found + ", due is " + told, found.equals(told));
    }

    private static List<String> refusals(String text, String form) {
        List<String> words = new ArrayList<>();
        Matcher word = Pattern.compile("\\b" + form).matcher(text);
        while (word.find()) {
            words.add(word.group());
        }
        return words;
    }

    private static void tests(String readme, Path directory) throws IOException {
        DUE.holds("how to run the tests", readme.contains("\n    .ci/run\n"));
        try (DirectoryStream<Path> files = Files.newDirectoryStream(directory, "*Test.java")) {
            for (Path file : files) {
                String name = file.getFileName().toString().replace(".java", "");
                DUE.holds(name + " is not named", readme.contains("`" + name + "`"));
            }
        }
    }
}
