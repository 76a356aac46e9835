import java.io.IOException;
import java.io.UncheckedIOException;
import java.nio.file.Files;
import java.nio.file.Path;

/** ../shared/DOC.md by its parts, so that a test can't quote what does not stand there. */
final class Document {
    private static final String TEXT = read();

    private Document() {
    }

    private static String read() {
        try {
            return Files.readString(Path.of("../shared/DOC.md"));
        } catch (IOException none) {
            throw new UncheckedIOException(none);
        }
    }

    /** A part is "What it is", "Terms I" to "Terms IV", or "Promise 1" to "Promise 41". */
    static boolean has(String part, String words) {
        return part(part).contains(words);
    }

    private static String part(String part) {
        switch (part) {
            case "What it is":
                return between("## What it is", "## The public face");
            case "Terms I":
                return between("\nI. ", "\nII. ");
            case "Terms II":
                return between("\nII. ", "\nIII. ");
            case "Terms III":
                return between("\nIII. ", "\nIV. ");
            case "Terms IV":
                return between("\nIV. ", "\nThe constants");
            default:
                return between("## " + part + ":", "\n## ");
        }
    }

    private static String between(String from, String to) {
        int start = TEXT.indexOf(from);
        int end = start < 0 ? -1 : TEXT.indexOf(to, start + from.length());
        return end < 0 ? "" : TEXT.substring(start, end);
    }
}
