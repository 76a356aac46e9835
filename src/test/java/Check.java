import java.nio.charset.StandardCharsets;

/** What the tests share: answers against those that are due, and texts onto the tape. */
final class Check {
    private final String test;
    private String sentence = "";
    private int asked;
    private int wrong;

    Check(String test) {
        this.test = test;
    }

    void due(String call, long got, long want) {
        asked++;
        if (got != want) {
            wrong++;
            System.out.println(test + ": " + sentence + call + " answered " + got + ", due is " + want);
        }
    }

    /** What is asked from here on is due by these words of a part of the document; they must stand there. */
    void of(String part, String words) {
        sentence = part + ", \"" + words + "\": ";
        holds("it stands in the document", Document.has(part, words));
    }

    void row(String what, int[] got, int... want) {
        due(what + ", how long", got.length, want.length);
        for (int i = 0; i < want.length && i < got.length; i++) {
            due(what + ", " + i, got[i], want[i]);
        }
    }

    void same(String what, String got, String want) {
        holds(what + ": " + got + " is " + want, got.equals(want));
    }

    void holds(String what, boolean is) {
        due(what, is ? 1 : 0, 1);
    }

    void close() {
        System.out.println(test + ": " + asked + " asked, " + wrong + " wrong");
        if (wrong != 0) {
            System.exit(1);
        }
    }

    /** Each sign of the text is one byte; the tape must be empty. */
    static void write(TamerState x, String text) {
        writeBytes(x, text.getBytes(StandardCharsets.ISO_8859_1));
    }

    static void writeBytes(TamerState x, byte[] bytes) {
        for (int at = 0; at < bytes.length; at += 20) {
            int[] fives = new int[5];
            for (int i = 0; i < 20; i++) {
                int sign = at + i < bytes.length ? bytes[at + i] & 255 : 32;
                fives[i / 4] = fives[i / 4] << 8 | sign;
            }
            x.feed(fives[0], fives[1], fives[2], fives[3], fives[4]);
        }
        x.end(bytes.length);
    }

    static int law(TamerState x, String text) {
        write(x, text);
        return x.law();
    }

    static int orders(TamerState x, String text) {
        write(x, text);
        return x.orders();
    }

    /** A law that stands and is in force on the spot. */
    static int forced(TamerState x, String text) {
        int law = law(x, text);
        x.force(law);
        return law;
    }
}
