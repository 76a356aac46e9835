import java.io.IOException;
import java.nio.file.Files;
import java.nio.file.Path;
import java.util.ArrayList;
import java.util.List;
import java.util.regex.Matcher;
import java.util.regex.Pattern;

/** The code of README.md: as a list for ReadmeTest, and as a program of its own that .ci/run compiles and runs. */
final class Readme {
    /** A call that the page shows with its answer, in the page's line (1 on). */
    record Shown(int line, String declared, String call, long answer) {
        String name() {
            return call.substring(call.indexOf('.') + 1, call.indexOf('('));
        }

        String checked() {
            String quoted = call.replace("\\", "\\\\").replace("\"", "\\\"");
            String ahead = declared.isEmpty() ? "" : declared + " = " + call + "; ";
            String value = declared.isEmpty() ? call : declared.substring(declared.indexOf(' ') + 1);
            return ahead + "due(" + line + ", \"" + quoted + "\", " + value + ", " + answer + "L);";
        }
    }

    private static final Pattern CALL =
        Pattern.compile("(?:((?:int|long) \\w+) = )?((?:ring\\.\\w+|write)\\(.*\\)); +// (-?\\d+)\\b.*");
    private static final String NEW_OBJECT = "TamerState ring = new TamerState();";

    final List<String> lines;
    final List<Shown> shown = new ArrayList<>();
    final List<String> strange = new ArrayList<>();
    private final StringBuilder program = new StringBuilder();
    private final StringBuilder pieces = new StringBuilder();

    Readme(Path page) throws IOException {
        lines = Files.readAllLines(page);
        program.append("final class ReadmeCalls {");
        String open = "";
        for (int i = 0; i < lines.size(); i++) {
            String line = lines.get(i);
            if (line.startsWith("```")) {
                program.append(fence(open, i));
                open = open.isEmpty() ? line + kindOf(i + 1) : "";
            } else if (open.equals("```java calls")) {
                program.append(statement(i + 1, line));
            } else if (open.equals("```java helper")) {
                program.append(line);
            }
            program.append('\n');
        }
        if (!open.isEmpty()) {
            strange.add("a piece of code without an end");
        }
        program.append(frame());
    }

    /** A piece that has a method of its own stands beside the others, which each become a method. */
    private String kindOf(int from) {
        for (int i = from; i < lines.size() && !lines.get(i).startsWith("```"); i++) {
            if (lines.get(i).startsWith("static ")) {
                return " helper";
            }
        }
        return " calls";
    }

    private String fence(String open, int i) {
        if (open.isEmpty()) {
            if (!lines.get(i).equals("```java")) {
                strange.add(i + 1 + ": code that is not Java");
            }
            if (kindOf(i + 1).equals(" helper")) {
                return "";
            }
            pieces.append("        piece").append(i + 1).append("();\n");
            return "static void piece" + (i + 1) + "() {";
        }
        return open.endsWith(" calls") ? "}" : "";
    }

    private String statement(int line, String told) {
        Matcher call = CALL.matcher(told);
        if (call.matches()) {
            String declared = call.group(1) == null ? "" : call.group(1);
            shown.add(new Shown(line, declared, call.group(2), Long.parseLong(call.group(3))));
            return shown.get(shown.size() - 1).checked();
        }
        if (!told.equals(NEW_OBJECT)) {
            strange.add(line + ": " + told);
        }
        return told;
    }

    /** Behind the page's own lines, so that a line that does not compile is told by its number on the page. */
    private String frame() {
        return """
                static int asked;
                static int wrong;
                static void due(int line, String call, long got, long want) {
                    asked++;
                    if (got != want) {
                        wrong++;
                        System.out.println("README.md, line " + line + ": " + call + " answered " + got + ", not " + want);
                    }
                }
                public static void main(String[] args) {
            """ + pieces + """
                    System.out.println("README.md: " + asked + " asked, " + wrong + " wrong");
                    if (wrong != 0 || asked == 0) {
                        System.exit(1);
                    }
                }
            }
            """;
    }

    String program() {
        return program.toString();
    }

    /** README.md and the file that its program is written to. */
    public static void main(String[] args) throws IOException {
        Files.writeString(Path.of(args[1]), new Readme(Path.of(args[0])).program());
    }
}
