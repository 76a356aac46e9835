import java.util.Random;

/** Makes texts of both languages by draws: most of them right, some with a slip, some at the limits. */
final class TextMaker {
    private static final String[] LAW_WORDS = {
        "tamer", "province", "hunger", "temper", "memory", "nerve", "meat", "tub", "day", "mood",
    };
    private static final String[] SLIPS = {
        ";", "(", ")", "[", "]", "+", "-", "*", "/", "%", "<", ">", "=", "if", "or", "and", "not", "times", "at", "to",
        "angers", "hungers", "pays", "bars", "crack", "feed", "move", "pass", "hunger", "meat", "arms", "done", "1001",
        "1000", "6", "4", "x", "A", "\t", "\u00e9", "\u0000", "00020", "21", "99999999999999999999", " ", "",
    };

    private final Random random;

    TextMaker(Random random) {
        this.random = random;
    }

    String text(boolean orders) {
        StringBuilder made = new StringBuilder();
        int clauses = random.nextInt(8) == 0 ? 11 + random.nextInt(4) : 1 + random.nextInt(4);
        for (int c = 0; c < clauses; c++) {
            made.append(c == 0 ? "" : ";").append(orders ? order(clauses) : law(clauses));
        }
        String text = made.toString();
        if (random.nextInt(4) == 0) {
            text = slipped(text);
        }
        if (random.nextInt(10) == 0) {
            text = atTheLimit(orders);
        }
        return text.length() > 400 ? text.substring(0, 400) : text;
    }

    private String slipped(String text) {
        String[] tokens = text.split("(?<=[^a-z0-9])|(?=[^a-z0-9])");
        int at = random.nextInt(tokens.length);
        String slip = SLIPS[random.nextInt(SLIPS.length)];
        tokens[at] = random.nextBoolean() ? slip : random.nextBoolean() ? tokens[at] + " " + slip : slip + tokens[at];
        String slipped = String.join("", tokens);
        return random.nextInt(4) == 0 ? slipped.substring(0, random.nextInt(slipped.length() + 1)) : slipped;
    }

    private String atTheLimit(boolean orders) {
        String head = orders ? "pass if " : "bars if ";
        int n = 7 + random.nextInt(3);
        int m = random.nextInt(n + 1);
        switch (random.nextInt(4)) {
            case 0:
                return head + "(".repeat(m) + "[".repeat(n - m) + "1" + "]".repeat(n - m) + "=1" + ")".repeat(m);
            case 1:
                return head + "1" + "+1".repeat(47 + random.nextInt(2)) + "=" + part(orders, 0);
            case 2:
                return head + "not ".repeat(random.nextInt(90)) + "1=1";
            default:
                return " ".repeat(random.nextInt(30));
        }
    }

    private String blank() {
        return random.nextInt(5) == 0 ? "  " : " ";
    }

    private String law(int clauses) {
        String[] kinds = {"angers", "angers", "hungers", "pays", "bars"};
        String kind = kinds[random.nextInt(kinds.length)];
        String made = kind + (kind.equals("bars") ? "" : blank() + sum(false, clauses > 6 ? 0 : 2));
        boolean asked = random.nextInt(kind.equals("bars") ? 8 : 3) > 0;
        return asked ? made + " if " + test(false, clauses > 6 ? 0 : 2) : made;
    }

    private String order(int clauses) {
        String made;
        switch (random.nextInt(5)) {
            case 0:
                made = "crack " + whose(4) + " at " + whose(6);
                break;
            case 1:
                made = "feed " + whose(4) + blank() + "to " + whose(6);
                break;
            case 2:
                made = "move " + whose(6) + " to" + blank() + whose(8);
                break;
            case 3:
                made = "pass";
                break;
            default:
                made = "crack 0 at 0";
                break;
        }
        if (random.nextInt(3) == 0) {
            made += " times " + (1 + random.nextInt(random.nextInt(3) == 0 ? 20 : 3));
        }
        return random.nextInt(2) == 0 ? made + " if " + test(true, clauses > 6 ? 0 : 2) : made;
    }

    private String whose(int many) {
        return random.nextInt(6) == 0 ? "[" + sum(true, 1) + "]%" + many : "" + random.nextInt(random.nextInt(4) == 0 ? many : 2);
    }

    private String test(boolean orders, int depth) {
        switch (depth == 0 ? 9 : random.nextInt(10)) {
            case 0:
                return "not " + test(orders, depth - 1);
            case 1:
                return "(" + test(orders, depth - 1) + ")";
            case 2:
                return test(orders, depth - 1) + " or " + test(orders, depth - 1);
            case 3:
                return test(orders, depth - 1) + " and " + test(orders, depth - 1);
            default:
                return sum(orders, depth) + "<>=".charAt(random.nextInt(3)) + sum(orders, depth);
        }
    }

    private String sum(boolean orders, int depth) {
        switch (depth == 0 ? 9 : random.nextInt(10)) {
            case 0:
                return "[" + sum(orders, depth - 1) + "]";
            case 1:
            case 2:
                return sum(orders, depth - 1) + "+" + sum(orders, depth - 1);
            case 3:
                return sum(orders, depth - 1) + " - " + sum(orders, depth - 1);
            case 4:
                return sum(orders, depth - 1) + "*" + sum(orders, depth - 1);
            case 5:
                return sum(orders, depth - 1) + "/" + sum(orders, depth - 1);
            case 6:
                return sum(orders, depth - 1) + "%" + sum(orders, depth - 1);
            default:
                return part(orders, depth);
        }
    }

    private String part(boolean orders, int depth) {
        if (random.nextInt(3) == 0) {
            return random.nextInt(12) == 0 ? "1000*1000*1000" : "" + random.nextInt(random.nextInt(5) == 0 ? 40 : 10);
        }
        if (!orders) {
            return LAW_WORDS[random.nextInt(LAW_WORDS.length)];
        }
        switch (random.nextInt(7)) {
            case 0:
                return "day";
            case 1:
                return "done";
            case 2:
                return "latest";
            case 3:
                return "hunger " + random.nextInt(6);
            case 4:
                return "temper" + random.nextInt(6);
            case 5:
                return "meat " + random.nextInt(4);
            default:
                return "arms " + random.nextInt(4);
        }
    }
}
