/** "Terms" II, both languages: each limit at the last text that is fine and at the first that is not. */
public final class EdgesTermsTwoTest {
    private static final String PART = "Terms II";
    private static final int NOT_SO = -1;

    public static void main(String[] args) {
        Check check = new Check("EdgesTermsTwoTest");
        tape(check);
        letters(check);
        digits(check);
        otherBytes(check);
        everyByte(check);
        blanks(check);
        clauses(check);
        tests(check);
        comparisons(check);
        terms(check);
        numbers(check);
        parts(check);
        brackets(check);
        faults(check);
        faultAtTheEnd(check);
        beyond(check);
        dividedByNothing(check);
        cutTowardsNothing(check);
        whatIsLeft(check);
        brokenTests(check);
        whatCanStillMatter(check);
        check.close();
    }

    private static void fine(Check check, String law) {
        TamerState x = new TamerState();
        check.due("law of '" + law + "'", Check.law(x, law), 0);
        check.due("fault of '" + law + "'", x.fault(), -1);
    }

    private static void fault(Check check, String law, int place) {
        TamerState x = new TamerState();
        check.due("law of '" + law + "'", Check.law(x, law), -6);
        check.due("fault of '" + law + "'", x.fault(), place);
        check.due("laws behind '" + law + "'", x.count(4), 0);
    }

    private static void fineOrders(Check check, String orders, int run) {
        TamerState x = Ring.of("1 1 1", "20 9");
        check.due("orders of '" + orders + "'", Check.orders(x, orders), run);
        check.due("fault of '" + orders + "'", x.fault(), -1);
    }

    private static void faultOrders(Check check, String orders, int place) {
        TamerState x = Ring.of("1 1 1", "20 9");
        check.due("orders of '" + orders + "'", Check.orders(x, orders), -6);
        check.due("fault of '" + orders + "'", x.fault(), place);
        check.due("days behind '" + orders + "'", x.count(13), 0);
    }

    /** What "angers SUM" tells (0 .. 30), NOT_SO where it does not hold: hunger and temper are 17 together. */
    private static int told(String sum) {
        TamerState x = Ring.of("9 8 4", "7 6");
        if (Check.forced(x, "angers " + sum) < 0) {
            return -2;
        }
        int angers = x.asks(0, 0, 1);
        return angers == 17 ? NOT_SO : angers;
    }

    private static void so(Check check, String test) {
        check.due(test, told("3 if " + test), 3);
    }

    private static void notSo(Check check, String test) {
        check.due(test, told("3 if " + test), NOT_SO);
    }

    private static void tape(Check check) {
        check.of(PART, "TEXTS are on a TAPE of at most 400 bytes.");
        String text = "angers 29" + " ".repeat(382) + "if mood=0";
        check.due("the text has", text.length(), 400);
        TamerState x = Ring.of("0 0 0", "0 0");
        Check.forced(x, text);
        check.due("read to its last byte", x.asks(0, 0, 1), 29);
        x.terms(2, 1);
        check.due("read to its last byte", x.asks(0, 0, 1), 0);
        fault(check, "bars" + " ".repeat(395) + "1", 399);
        TamerState y = new TamerState();
        Check.write(y, text);
        fault(check, "[".repeat(400), 0);
        fault(check, "angers" + "[".repeat(394), 14);
        String brackets = "[[[[[[[[0]]]]]]]]+".repeat(21) + "9+[[[[[[1]]]]]]";
        check.due("with angers and a blank", 7 + brackets.length(), 400);
        check.due("394 tokens", told(brackets), 10);
        check.due("400 bytes", y.count(6), 400);
        check.due("twenty more", y.feed(0, 0, 0, 0, 0), -1);
        check.due("400 bytes", y.count(6), 400);
    }

    private static void letters(Check check) {
        check.of(PART, "TOKENS: longest rows of letters a .. z");
        fine(check, "bars");
        fault(check, "barsa", 0);
        fault(check, "barsz", 0);
        fault(check, "bars`", 4);
        fault(check, "bars{", 4);
        fault(check, "barsA", 4);
        fault(check, "barsZ", 4);
        fault(check, "barsif 1=1", 0);
        fault(check, "bar", 0);
        fault(check, "bar s", 0);
        fine(check, "bars if 1=1");
    }

    private static void digits(Check check) {
        check.of(PART, "of digits");
        check.due("digits 0 and 9", told("09"), 9);
        check.due("one row", told("10"), 10);
        fault(check, "angers 1 0", 9);
        fault(check, "angers 1:", 8);
        check.due("the byte ahead of 0 is none", told("8/2"), 4);
        check.due("letters end at a digit", told("9if1=1"), 9);
        fault(check, "angers1bars", 7);
    }

    private static void otherBytes(Check check) {
        check.of(PART, "single other bytes");
        fine(check, "angers[[1]]");
        fine(check, "bars if((1=1))");
        fault(check, "bars if 1<=1", 10);
        fault(check, "bars if 1==1", 10);
        fault(check, "bars;;bars", 5);
        fault(check, "bars" + (char) 0, 4);
        fault(check, "bars" + (char) 127, 4);
        fault(check, "bars" + (char) 128, 4);
        fault(check, "bars" + (char) 255, 4);
    }

    private static void everyByte(Check check) {
        check.of(PART, "the first TOKEN that can't go on there (the end's: the TEXT's length)");
        for (char sign = 0; sign < 256; sign++) {
            boolean digit = sign >= '0' && sign <= '9';
            boolean joins = "+-*/%".indexOf(sign) >= 0;
            faultOf(check, false, "" + sign, sign == ' ' ? 1 : 0);
            faultOf(check, false, "pays " + sign, digit ? -1 : sign == ' ' || sign == '[' ? 6 : 5);
            faultOf(check, false, "pays 1" + sign, digit || sign == ' ' ? -1 : joins || sign == ';' ? 7 : 6);
            faultOf(check, false, "bars if 1" + sign + "1",
                "<>=".indexOf(sign) >= 0 ? -1 : digit || joins ? 11 : sign == ' ' ? 10 : 9);
            faultOf(check, true, "pass times " + sign, digit && sign != '0' ? -1 : sign == ' ' ? 12 : 11);
            faultOf(check, true, "pass if hunger " + sign + "=1", sign >= '0' && sign <= '5' ? -1 : sign == ' ' ? 16 : 15);
            faultOf(check, true, "pass if meat " + sign + "=1", sign >= '0' && sign <= '3' ? -1 : sign == ' ' ? 14 : 13);
        }
    }

    private static void faultOf(Check check, boolean orders, String text, int place) {
        TamerState x = new TamerState();
        int answer = orders ? Check.orders(x, text) : Check.law(x, text);
        check.due("\"" + text + "\" is read", answer == -6 ? 0 : 1, place < 0 ? 1 : 0);
        check.due("the fault of \"" + text + "\"", x.fault(), place);
    }

    private static void blanks(Check check) {
        check.of(PART, "any blanks (32) between");
        fine(check, "angers1if1=1;bars");
        fine(check, "  angers   1  if 1  = 1 ;  bars  ");
        fault(check, "bars" + (char) 31, 4);
        fault(check, "bars" + (char) 33, 4);
        fault(check, "bars\t", 4);
        fault(check, "bars\n", 4);
        fault(check, "bars" + (char) 160, 4);
    }

    private static void clauses(Check check) {
        check.of(PART, "CLAUSE {\";\" CLAUSE}, 12 at most (FAULT at the 13th's first TOKEN).");
        String laws = "bars" + ";bars".repeat(11);
        fine(check, "bars");
        fine(check, laws);
        fault(check, laws + ";  bars", laws.length() + 3);
        fault(check, laws + ";", laws.length() + 1);
        fault(check, laws + "; ", laws.length() + 2);
        fault(check, laws + ";?", laws.length() + 1);
        String orders = "pass" + ";pass".repeat(11);
        fineOrders(check, "pass", 1);
        fineOrders(check, orders, 12);
        faultOrders(check, orders + ";  pass", orders.length() + 3);
        faultOrders(check, orders + ";", orders.length() + 1);
        fault(check, "", 0);
        fault(check, "bars;", 5);
        fault(check, ";bars", 0);
    }

    private static void tests(Check check) {
        check.of(PART, "TEST: BOTH {\"or\" BOTH}. BOTH: PLAIN {\"and\" PLAIN}. PLAIN: \"not\" PLAIN | \"(\" TEST \")\"");
        so(check, "1=1 or 1=1 and 1=2");
        notSo(check, "(1=1 or 1=1) and 1=2");
        so(check, "not 1=2 or 1=1");
        notSo(check, "not (1=2 or 1=1)");
        so(check, "not not 1=1");
        notSo(check, "not not not 1=1");
        notSo(check, "not 2=2");
        so(check, "not not 2=2");
        so(check, "not 2=0");
        notSo(check, "not 1<2");
        so(check, "not 2<2");
        notSo(check, "not 2>1");
        so(check, "not 2>2");
        fine(check, "bars if " + "not ".repeat(97) + "1=1");
        fault(check, "bars if ()", 9);
        fault(check, "bars if (1)", 10);
        fault(check, "bars if not", 11);
        fault(check, "bars if 1=1 and", 15);
        fault(check, "bars if 1=1 or", 14);
        fault(check, "bars if 1=1)", 11);
        fault(check, "bars if or 1=1", 8);
    }

    private static void comparisons(Check check) {
        check.of(PART, "SUM (\"<\" | \">\" | \"=\") SUM");
        so(check, "6<7");
        notSo(check, "7<7");
        notSo(check, "8<7");
        notSo(check, "6>7");
        notSo(check, "7>7");
        so(check, "8>7");
        notSo(check, "6=7");
        so(check, "7=7");
        notSo(check, "8=7");
        fault(check, "bars if 1", 9);
        fault(check, "bars if 1=", 10);
        fault(check, "bars if =1", 8);
        fault(check, "bars if 1=1=1", 11);
        fault(check, "bars if 1~1", 9);
    }

    private static void terms(Check check) {
        check.of(PART, "SUM: TERM {(\"+\" | \"-\") TERM}. TERM: PART {(\"*\" | \"/\" | \"%\") PART}.");
        check.due("2+3*4", told("2+3*4"), 14);
        check.due("[2+3]*4", told("[2+3]*4"), 20);
        check.due("9-4-3", told("9-4-3"), 2);
        check.due("24/4/3", told("24/4/3"), 2);
        check.due("29%10%4", told("29%10%4"), 1);
        check.due("7*5%8", told("7*5%8"), 3);
        fault(check, "angers -1", 7);
        fault(check, "angers +1", 7);
        fault(check, "angers 1+", 9);
        fault(check, "angers 1*", 9);
        fault(check, "angers 1+*1", 9);
        fault(check, "angers []", 8);
        fault(check, "angers [1", 9);
        fault(check, "angers 1]", 8);
        fault(check, "angers (1)", 7);
    }

    private static void numbers(Check check) {
        check.of(PART, "NUMBER (to 1,000)");
        check.due("1000", told("1000/100"), 10);
        check.due("0", told("0"), 0);
        check.due("0001000", told("0001000/100"), 10);
        fault(check, "angers 1001", 7);
        fault(check, "angers 0001001", 7);
        fault(check, "angers 9999", 7);
        fault(check, "angers 10000", 7);
        fault(check, "angers 4294967296", 7);
        fault(check, "angers 18446744073709551617", 7);
        fault(check, "angers 1+  1001", 11);
        fineOrders(check, "move 1000-1000 to 1000/500", 1);
        faultOrders(check, "move 1001-1001 to 2", 5);
    }

    private static void parts(Check check) {
        check.of(PART, "50 PARTS that are NUMBERS and words (FAULT at the 51st)");
        String fifty = "angers 1" + "+1".repeat(24) + "+day".repeat(25);
        fine(check, fifty);
        fault(check, fifty + "+ 1", fifty.length() + 2);
        fault(check, fifty + "+ day", fifty.length() + 2);
        fault(check, fifty + ";bars if  2=2", fifty.length() + 10);
        fault(check, fifty + "+[1]", fifty.length() + 2);
        fine(check, fifty.replaceFirst("1\\+1", "[[1]]+[1]"));
        fine(check, fifty + ";bars");
        fault(check, fifty.replaceFirst("day$", "1001"), fifty.length() - 3);
        String orders = "pass if 1" + "+done".repeat(24) + "+1".repeat(24) + "=";
        fineOrders(check, orders + "25", 1);
        faultOrders(check, orders + "25+1", orders.length() + 3);
        faultOrders(check, orders + "25;pass if 1=1", orders.length() + 11);
    }

    private static void brackets(Check check) {
        check.of(PART, "8 brackets of both kinds within one another (FAULT at the 9th) at most");
        for (int round = 0; round <= 8; round++) {
            String open = "bars if " + "(".repeat(round) + "[".repeat(8 - round);
            String close = "1" + "]".repeat(8 - round) + "=1" + ")".repeat(round);
            fine(check, open + close);
            fault(check, open + "[" + close.replaceFirst("1", "1]"), 16);
        }
        fault(check, "bars if " + "(".repeat(9) + "1=1" + ")".repeat(9), 16);
        fault(check, "angers " + "[".repeat(9) + "1" + "]".repeat(9), 15);
        fine(check, "angers [1]+[1]+[1]+[1]+[1]+[1]+[1]+[1]+[1]+[1]");
        fine(check, "bars if (1=1)and(1=1)and(1=1)and(1=1)and(1=1)and(1=1)and(1=1)and(1=1)and(1=1)");
        fine(check, "angers [[[[[[[[1]]]]]]]]+[[[[[[[[1]]]]]]]];angers [[[[[[[[1]]]]]]]]");
        fault(check, "angers [[[[[[[[1]]]]]]]]+[[[[[[[[[1]]]]]]]]]", 33);
        faultOrders(check, "crack [[[[[[[[[0]]]]]]]]] at 0", 14);
        fineOrders(check, "crack [[[[[[[[0]]]]]]]] at [[[[[[[[0]]]]]]]]", 1);
    }

    private static void faults(Check check) {
        check.of(PART, "FAULT: the first TOKEN that can't go on there");
        fault(check, "angers ? ?", 7);
        fault(check, "?", 0);
        fault(check, "   ?", 3);
        fault(check, "angers 1 1001", 9);
        fault(check, "bars 1001 if (", 5);
        fault(check, "bars if 1=1 if 1=1", 12);
        fault(check, "pays done", 5);
        fault(check, "pass", 0);
        fault(check, "bars times 2", 5);
        faultOrders(check, "bars", 0);
        faultOrders(check, "pass;crack 0 to 0", 13);
        faultOrders(check, "feed 0 at 0", 7);
        faultOrders(check, "move 0 at 0", 7);
        faultOrders(check, "pass if 1=1 times 2", 12);
        faultOrders(check, "crack tamer at 0", 6);
    }

    private static void faultAtTheEnd(Check check) {
        check.of(PART, "(the end's: the TEXT's length)");
        fault(check, "angers", 6);
        fault(check, "angers    ", 10);
        fault(check, "bars if", 7);
        fault(check, "bars;  ", 7);
        fault(check, "", 0);
        fault(check, " ".repeat(400), 400);
        fault(check, "bars if" + " ".repeat(393), 400);
        fault(check, "bars if (", 9);
        fault(check, "bars if (1=", 11);
        fault(check, "bars if (1=1", 12);
        fault(check, "bars if (1=1 or", 15);
        fault(check, "angers [", 8);
        fault(check, "angers [1+", 10);
        fault(check, "angers [1*", 10);
        fault(check, "angers [[1]", 11);
        fault(check, "bars if 1+", 10);
        faultOrders(check, "crack [", 7);
        faultOrders(check, "crack 0 at [1", 13);
        faultOrders(check, "pass if not (", 13);
        faultOrders(check, "pass times", 10);
        faultOrders(check, "crack 0 at ", 11);
        faultOrders(check, "crack hunger", 12);
        faultOrders(check, " ".repeat(399), 399);
    }

    private static void beyond(Check check) {
        check.of(PART, "Beyond 1,000,000,000 either way");
        String most = "1000*1000*1000";
        check.due("the most", told(most), 30);
        check.due("one more", told(most + "+1"), NOT_SO);
        check.due("the least", told("0-" + most), 0);
        check.due("one less", told("0-" + most + "-1"), NOT_SO);
        check.due("the most by another way", told("[" + most + "-1]+1"), 30);
        check.due("twice", told(most + "*2/1000"), NOT_SO);
        check.due("beyond on the way", told(most + "+1-" + most), NOT_SO);
        check.due("below on the way", told("0-" + most + "-1+" + most), NOT_SO);
        check.due("by a number below 0", told(most + "*[0-1]"), 0);
        check.due("beyond by two below 0", told("[0-" + most + "]*[0-2]"), NOT_SO);
        check.due("beyond 63 bits", told("[" + most + "]*[" + most + "]"), NOT_SO);
        so(check, most + ">" + most + "-1");
        notSo(check, most + "+1>" + most);
        notSo(check, "not " + most + "+1=0");
    }

    private static void dividedByNothing(Check check) {
        check.of(PART, "or divided by 0");
        check.due("by 1", told("6/1"), 6);
        check.due("by 0", told("6/0"), NOT_SO);
        check.due("0 by 0", told("0/0"), NOT_SO);
        check.due("what 1 leaves", told("6%1"), 0);
        check.due("what 0 leaves", told("6%0"), NOT_SO);
        check.due("by a sum that is 0", told("6/[3-3]"), NOT_SO);
        check.due("by a word that is 0", told("6%mood"), NOT_SO);
        check.due("by -1", told("6/[0-1]"), 0);
        check.due("times 0", told("0*[1/0]"), NOT_SO);
    }

    private static void cutTowardsNothing(Check check) {
        check.of(PART, "/ cut towards 0");
        check.due("7/2", told("7/2"), 3);
        check.due("-7/2", told("10+[0-7]/2"), 7);
        check.due("7/-2", told("10+7/[0-2]"), 7);
        check.due("-7/-2", told("[0-7]/[0-2]"), 3);
        check.due("-8/2", told("10+[0-8]/2"), 6);
        check.due("1/2", told("1/2"), 0);
        check.due("-1/2", told("5+[0-1]/2"), 5);
    }

    private static void whatIsLeft(Check check) {
        check.of(PART, "% what is left then");
        check.due("7%2", told("7%2"), 1);
        check.due("8%2", told("8%2"), 0);
        check.due("-7%2", told("10+[0-7]%2"), 9);
        check.due("7%-2", told("10+7%[0-2]"), 11);
        check.due("-7%-2", told("10+[0-7]%[0-2]"), 9);
        check.due("1%2", told("1%2"), 1);
    }

    private static void brokenTests(Check check) {
        check.of(PART, "a SUM, a TEST is BROKEN");
        notSo(check, "1/0=1");
        notSo(check, "1=1/0");
        notSo(check, "not 1/0=1");
        notSo(check, "(1/0=1)");
        notSo(check, "not (not 1/0=1)");
        notSo(check, "1/0=1 or 1=1");
        notSo(check, "1/0=1 and 1=2 or 1=1");
    }

    private static void whatCanStillMatter(Check check) {
        check.of(PART, "(\"or\", \"and\" ask what stands behind only if it can still matter)");
        so(check, "1=1 or 1/0=1");
        notSo(check, "1=2 or 1/0=1");
        notSo(check, "1=1 and 1/0=1");
        so(check, "not (1=2 and 1/0=1)");
        so(check, "1=2 and 1/0=1 or 1=1");
        notSo(check, "1=1 and 1/0=1 or 1=1");
        so(check, "1=1 or 1=2 or 1/0=1");
        so(check, "1=2 or 1=1 or 1/0=1");
        notSo(check, "1=2 or 1=2 or 1/0=1");
        so(check, "not (1=1 and 1=2 and 1/0=1)");
        so(check, "(1=1 or 1/0=1) and 1=1");
        notSo(check, "(1=1 or 1/0=1) and 1/0=1");
    }
}
