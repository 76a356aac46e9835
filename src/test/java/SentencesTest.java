import java.io.IOException;
import java.nio.file.Files;
import java.nio.file.Path;
import java.util.List;
import java.util.Set;
import java.util.TreeSet;
import java.util.regex.Matcher;
import java.util.regex.Pattern;
import java.util.stream.Collectors;
import java.util.stream.Stream;

/** Each part of "Terms" and each promise is quoted by a test of edges, and each such test quotes a sentence. */
public final class SentencesTest {
    private static final Pattern QUOTE = Pattern.compile("check\\.of\\((PART|\"[^\"]+\"), \"");
    private static final Pattern TEST = Pattern.compile("(?m)^    private static void (\\w+)\\(Check check\\) \\{\n(.*)$");

    public static void main(String[] args) throws IOException {
        Check check = new Check("SentencesTest");
        Set<String> quoted = new TreeSet<>();
        for (Path file : edges()) {
            String source = Files.readString(file);
            Matcher part = Pattern.compile("String PART = (\"[^\"]+\");").matcher(source);
            String own = part.find() ? part.group(1) : "";
            Matcher quote = QUOTE.matcher(source);
            while (quote.find()) {
                quoted.add(quote.group(1).equals("PART") ? own : quote.group(1));
            }
            eachTestQuotes(check, file, source);
        }
        for (String part : new String[] {"I", "II", "III", "IV"}) {
            check.holds("Terms " + part + " is quoted", quoted.contains("\"Terms " + part + "\""));
        }
        for (int promise = 1; promise <= 41; promise++) {
            check.holds("Promise " + promise + " is quoted", quoted.contains("\"Promise " + promise + "\""));
        }
        check.close();
    }

    private static List<Path> edges() throws IOException {
        try (Stream<Path> files = Files.list(Path.of("src/test/java"))) {
            return files.filter(f -> f.getFileName().toString().startsWith("Edges")).sorted().collect(Collectors.toList());
        }
    }

    private static void eachTestQuotes(Check check, Path file, String source) {
        Matcher test = TEST.matcher(source);
        int seen = 0;
        while (test.find()) {
            seen++;
            String name = file.getFileName() + " " + test.group(1);
            check.holds(name + " begins with its sentence", test.group(2).startsWith("        check.of("));
            check.due(name + " is run", source.split("\n        " + test.group(1) + "\\(check\\);", -1).length - 1, 1);
        }
        check.holds("tests are seen in " + file.getFileName(), seen > 9);
    }
}
