import java.nio.file.Files;
import java.nio.file.Path;
import java.util.regex.Matcher;
import java.util.regex.Pattern;

/** What can be seen of ../shared/LANGUAGE.md in the source alone. */
public final class LanguageTest {
    private static final int LONGEST = 60;

    public static void main(String[] args) throws Exception {
        Check check = new Check("LanguageTest");
        String source = Files.readString(Path.of("src/main/java/TamerState.java"));
        String bare = source.replaceAll("(?s)/\\*.*?\\*/", "").replaceAll("//[^\n]*", "")
            .replaceAll("\"[^\"\n]*\"", "\"\"");
        words(check, bare);
        imports(check, bare);
        statics(check, bare);
        methods(check, bare);
        check.due("classes", matches(bare, "\\b(class|enum|interface|record) [A-Z]"), 11);
        check.close();
    }

    private static int matches(String text, String pattern) {
        Matcher matcher = Pattern.compile(pattern).matcher(text);
        int found = 0;
        while (matcher.find()) {
            found++;
        }
        return found;
    }

    private static void words(Check check, String bare) {
        String[] never = {"throw", "throws", "try", "catch", "finally", "synchronized", "assert", "package", "protected",
            "native", "volatile", "transient", "instanceof", "double", "float", "Exception", "Thread", "Random",
            "hashCode", "toString", "equals", "var"};
        for (String word : never) {
            check.due(word, matches(bare, "\\b" + word + "\\b"), 0);
        }
        check.due("->", matches(bare, "->"), 0);
        check.due("::", matches(bare, "::"), 0);
        check.due("Exact", matches(bare, "Exact"), 0);
        check.due("texts joined by +", matches(bare, "\"\" *\\+|\\+ *\"\""), 0);
        check.due("signs beyond 127", matches(bare, "[^\\x00-\\x7f]"), 0);
        check.due("loops without an end", matches(bare, "while \\(true\\)|for \\(;;"), 0);
    }

    private static void imports(Check check, String bare) {
        check.due("imports", matches(bare, "(?m)^import "), 1);
        check.due("of Arrays alone", matches(bare, "(?m)^import java\\.util\\.Arrays;"), 1);
        Matcher call = Pattern.compile("\\b(Arrays|Math|Integer|Long|System)\\.(\\w+)").matcher(bare);
        while (call.find()) {
            check.holds(call.group(), call.group().matches(
                "Arrays\\.(fill|copyOf)|Math\\.(max|min|abs)|Integer\\.bitCount|System\\.arraycopy"));
        }
    }

    private static void statics(Check check, String bare) {
        Matcher field = Pattern.compile("(?m)^.*\\bstatic\\b[^({\n]*[=;].*$").matcher(bare);
        while (field.find()) {
            check.holds("static and final: " + field.group().trim(),
                field.group().matches(".*static final (int|long|String|int\\[\\]) [A-Z_]+ =.*"));
        }
    }

    private static void methods(Check check, String bare) {
        Matcher method = Pattern.compile("(?m)^( {4}| {8})((private |static |public )*[A-Za-z\\[\\]]+ \\w+|(public )?[A-Z]\\w+)"
            + "\\(([^)]*)\\) \\{$").matcher(bare);
        int seen = 0;
        while (method.find()) {
            seen++;
            int end = bare.indexOf("\n" + method.group(1) + "}\n", method.start());
            long lines = bare.substring(method.start(), end + 1).lines().count();
            check.holds(method.group().trim() + " has " + lines + " lines", lines <= LONGEST);
            check.holds(method.group().trim(), method.group(5).split(",").length <= 7);
        }
        check.holds("methods are seen: " + seen, seen > 100);
    }
}
