import java.io.IOException;
import java.lang.reflect.Method;
import java.lang.reflect.Modifier;
import java.nio.file.Files;
import java.nio.file.Path;
import java.util.List;
import java.util.Set;
import java.util.TreeMap;
import java.util.TreeSet;
import java.util.regex.Matcher;
import java.util.regex.Pattern;

/** README.md tells of every call of the face, of each refusal and of the tests; .ci/run runs the calls it shows. */
public final class ReadmeTest {
    private static final String[] GROUPS = {"An object", "What a refused call answers", "Provinces and tamers",
        "The tape and its texts", "Laws and orders", "Acts and days", "What is asked on paper", "Deeds",
        "Decades and rows", "Images", "Tests"};
    private static final int[] REFUSALS = {-1, -2, -3, -5, -6};

    public static void main(String[] args) throws IOException {
        Check check = new Check("ReadmeTest");
        Readme page = new Readme(Path.of("README.md"));
        groups(check, page);
        shownCalls(check, page);
        toldCalls(check, page);
        refusals(check, page);
        uses(check, page);
        tests(check, page);
        check.close();
    }

    private static TreeMap<String, Integer> face() {
        TreeMap<String, Integer> face = new TreeMap<>();
        for (Method method : TamerState.class.getDeclaredMethods()) {
            if (Modifier.isPublic(method.getModifiers())) {
                face.put(method.getName(), method.getParameterCount());
            }
        }
        return face;
    }

    private static void groups(Check check, Readme page) {
        List<String> headings = page.lines.stream().filter(l -> l.startsWith("## ")).toList();
        check.due("how many parts", headings.size(), GROUPS.length);
        for (int i = 0; i < GROUPS.length && i < headings.size(); i++) {
            check.same("part " + i, headings.get(i), "## " + GROUPS[i]);
        }
    }

    private static void shownCalls(Check check, Readme page) {
        check.same("lines of code that tell no answer", page.strange.toString(), "[]");
        Set<String> shown = new TreeSet<>();
        page.shown.forEach(s -> shown.add(s.name()));
        shown.remove("write"); // the page's own helper
        check.same("what is shown with its answer", shown.toString(), face().keySet().toString());
        for (Readme.Shown call : page.shown) {
            check.holds("each answer is in the program: " + call, page.program().contains(call.checked()));
        }
    }

    /** Words in `` `..` `` that have the form of a call name one, with as many arguments as it has. */
    private static void toldCalls(Check check, Readme page) {
        Set<String> told = new TreeSet<>();
        Matcher call = Pattern.compile("`(\\w+)\\(([^)`]*)\\)`").matcher(String.join("\n", page.lines));
        while (call.find()) {
            told.add(call.group(1));
            int many = call.group(2).isBlank() ? 0 : call.group(2).split(",").length;
            check.due(call.group(), many, face().getOrDefault(call.group(1), -1));
        }
        check.same("what is told", told.toString(), face().keySet().toString());
    }

    private static void refusals(Check check, Readme page) {
        for (int by : REFUSALS) {
            check.due("rows of " + by, page.lines.stream().filter(l -> l.startsWith("| " + by + " | ")).count(), 1);
            check.holds("a call refused by " + by, page.shown.stream().anyMatch(s -> s.answer() == by));
        }
        String text = String.join(" ", page.lines);
        int from = text.indexOf("calls that can be refused: ") + 27;
        String names = text.substring(from, text.indexOf(". ", from)).replace("`", "");
        check.of("Promise 41", "What the latest call of " + names + " was REFUSED by");
    }

    private static void uses(Check check, Readme page) {
        check.of("What it is", "at most 512 calls");
        check.holds("how often it may be used", String.join(" ", page.lines).contains("used for 512 calls after it has been made"));
    }

    private static void tests(Check check, Readme page) throws IOException {
        List<String> script = Files.readAllLines(Path.of(".ci/run"));
        check.holds("the command", page.lines.contains("    bash .ci/run"));
        check.holds("it can be run", Files.isExecutable(Path.of(".ci/run")));
        check.holds("its last line", script.contains("echo \"$passed passed, $failed failed\""));
        check.holds("is told", String.join(" ", page.lines).contains("its last line is `N passed, N failed`"));
    }
}
