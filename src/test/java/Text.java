import java.util.ArrayList;
import java.util.List;
import java.util.function.ToLongFunction;

/** A second reading of both languages, by trees and exceptions, for ModelTest alone. */
final class Text {
    /** Asks for a word's value: its name, and which one where it names one (else -1). */
    interface Asked {
        long value(String word, int which);
    }

    static final class Fault extends Exception {
        private static final long serialVersionUID = 1L;
        final int place;

        Fault(int place) {
            this.place = place;
        }
    }

    static final class Broken extends RuntimeException {
        private static final long serialVersionUID = 1L;
    }

    static final class Clause {
        String kind;
        int times = 1;
        ToLongFunction<Asked> first;
        ToLongFunction<Asked> second;
        ToLongFunction<Asked> test;

        /** Null: it does not hold. */
        Long told(Asked asked) {
            try {
                if (test != null && test.applyAsLong(asked) == 0) {
                    return null;
                }
                return first == null ? Long.valueOf(0) : Long.valueOf(first.applyAsLong(asked));
            } catch (Broken broken) {
                return null;
            }
        }
    }

    private final String text;
    private final boolean orders;
    private final List<String> tokens = new ArrayList<>();
    private final List<Integer> places = new ArrayList<>();
    private int at;
    private int parts;
    private int open;

    private Text(String text, boolean orders) {
        this.text = text;
        this.orders = orders;
        java.util.regex.Matcher m = java.util.regex.Pattern.compile("[a-z]+|[0-9]+|[^ ]", java.util.regex.Pattern.DOTALL)
            .matcher(text);
        while (m.find()) {
            tokens.add(m.group());
            places.add(m.start());
        }
    }

    static List<Clause> read(String text, boolean orders) throws Fault {
        return new Text(text, orders).clauses();
    }

    private String peek() {
        return at < tokens.size() ? tokens.get(at) : "";
    }

    private Fault fault() {
        return new Fault(at < tokens.size() ? places.get(at) : text.length());
    }

    private boolean eat(String token) {
        if (peek().equals(token)) {
            at++;
            return true;
        }
        return false;
    }

    private void need(String token) throws Fault {
        if (!eat(token)) {
            throw fault();
        }
    }

    private boolean isNumber() {
        return peek().matches("[0-9]+");
    }

    private int number(int low, int high) throws Fault {
        if (!isNumber()) {
            throw fault();
        }
        java.math.BigInteger value = new java.math.BigInteger(peek());
        if (value.compareTo(java.math.BigInteger.valueOf(low)) < 0
            || value.compareTo(java.math.BigInteger.valueOf(high)) > 0) {
            throw fault();
        }
        at++;
        return value.intValue();
    }

    private List<Clause> clauses() throws Fault {
        List<Clause> all = new ArrayList<>();
        do {
            if (all.size() == 12) {
                throw fault();
            }
            all.add(clause());
        } while (eat(";"));
        if (at < tokens.size()) {
            throw fault();
        }
        return all;
    }

    private Clause clause() throws Fault {
        Clause c = new Clause();
        c.kind = peek();
        List<String> kinds = orders ? List.of("crack", "feed", "move", "pass")
            : List.of("angers", "hungers", "pays", "bars");
        if (!kinds.contains(c.kind)) {
            throw fault();
        }
        at++;
        if (!c.kind.equals("pass") && !c.kind.equals("bars")) {
            c.first = sum();
            if (orders) {
                need(c.kind.equals("crack") ? "at" : "to");
                c.second = sum();
            }
        }
        if (orders && eat("times")) {
            c.times = number(1, 20);
        }
        if (eat("if")) {
            c.test = test();
        }
        return c;
    }

    private ToLongFunction<Asked> test() throws Fault {
        ToLongFunction<Asked> left = both();
        while (eat("or")) {
            ToLongFunction<Asked> a = left;
            ToLongFunction<Asked> b = both();
            left = w -> a.applyAsLong(w) != 0 ? 1 : b.applyAsLong(w);
        }
        return left;
    }

    private ToLongFunction<Asked> both() throws Fault {
        ToLongFunction<Asked> left = plain();
        while (eat("and")) {
            ToLongFunction<Asked> a = left;
            ToLongFunction<Asked> b = plain();
            left = w -> a.applyAsLong(w) == 0 ? 0 : b.applyAsLong(w);
        }
        return left;
    }

    private ToLongFunction<Asked> plain() throws Fault {
        if (eat("not")) {
            ToLongFunction<Asked> a = plain();
            return w -> a.applyAsLong(w) == 0 ? 1 : 0;
        }
        if (peek().equals("(")) {
            enter();
            ToLongFunction<Asked> a = test();
            leave(")");
            return a;
        }
        ToLongFunction<Asked> a = sum();
        String sign = peek();
        if (!List.of("<", ">", "=").contains(sign)) {
            throw fault();
        }
        at++;
        ToLongFunction<Asked> b = sum();
        return w -> {
            int compared = Long.compare(a.applyAsLong(w), b.applyAsLong(w));
            return (sign.equals("<") ? compared < 0 : sign.equals(">") ? compared > 0 : compared == 0) ? 1 : 0;
        };
    }

    private void enter() throws Fault {
        if (open == 8) {
            throw fault();
        }
        open++;
        at++;
    }

    private void leave(String bracket) throws Fault {
        need(bracket);
        open--;
    }

    private ToLongFunction<Asked> sum() throws Fault {
        ToLongFunction<Asked> left = term();
        while (peek().equals("+") || peek().equals("-")) {
            String sign = tokens.get(at++);
            left = joined(sign, left, term());
        }
        return left;
    }

    private ToLongFunction<Asked> term() throws Fault {
        ToLongFunction<Asked> left = part();
        while (peek().equals("*") || peek().equals("/") || peek().equals("%")) {
            String sign = tokens.get(at++);
            left = joined(sign, left, part());
        }
        return left;
    }

    private static ToLongFunction<Asked> joined(String sign, ToLongFunction<Asked> a, ToLongFunction<Asked> b) {
        return w -> {
            long left = a.applyAsLong(w);
            long right = b.applyAsLong(w);
            if ("/%".contains(sign) && right == 0) {
                throw new Broken();
            }
            long value = sign.equals("+") ? left + right : sign.equals("-") ? left - right
                : sign.equals("*") ? left * right : sign.equals("/") ? left / right : left - left / right * right;
            if (Math.abs(value) > 1_000_000_000L) {
                throw new Broken();
            }
            return value;
        };
    }

    private ToLongFunction<Asked> part() throws Fault {
        if (peek().equals("[")) {
            enter();
            ToLongFunction<Asked> a = sum();
            leave("]");
            return a;
        }
        List<String> words = orders ? List.of("day", "done", "latest", "hunger", "temper", "meat", "arms")
            : List.of("tamer", "province", "hunger", "temper", "memory", "nerve", "meat", "tub", "day", "mood");
        String word = peek();
        if (!isNumber() && !words.contains(word) || parts == 50) {
            throw fault();
        }
        parts++;
        if (isNumber()) {
            int value = number(0, 1000);
            return w -> value;
        }
        at++;
        if (orders && words.indexOf(word) > 2) {
            int which = number(0, word.equals("hunger") || word.equals("temper") ? 5 : 3);
            return w -> w.value(word, which);
        }
        return w -> w.value(word, -1);
    }
}
