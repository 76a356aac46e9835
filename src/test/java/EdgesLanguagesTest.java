/** "Terms" II, what laws and orders mean: each sentence with a bound or an impossible case, at both of its sides. */
public final class EdgesLanguagesTest {
    private static final String PART = "Terms II";

    public static void main(String[] args) {
        Check check = new Check("EdgesLanguagesTest");
        lawsAtMost(check);
        noneInForceAtFirst(check);
        lawClauses(check);
        hungersOfAProvince(check);
        paysOfATamer(check);
        angersOfBoth(check);
        holds(check);
        angers(check);
        lastThatHolds(check);
        angersWithout(check);
        hungers(check);
        paid(check);
        barred(check);
        orderClauses(check);
        times(check);
        provinceNumbers(check);
        tamerNumbers(check);
        asideParts(check);
        onceWithout(check);
        ifEachTime(check);
        sumsFromTheLeft(check);
        done(check);
        latest(check);
        withoutSuchAOne(check);
        brokenSumEnds(check);
        refusedOnesEnd(check);
        allAsItWas(check);
        check.close();
    }

    private static TamerState forced(TamerState x, String law) {
        check(Check.forced(x, law) >= 0, law);
        return x;
    }

    private static void check(boolean is, String law) {
        if (!is) {
            throw new IllegalStateException("no law: " + law);
        }
    }

    private static void lawsAtMost(Check check) {
        check.of(PART, "LAWS, 6 at most");
        TamerState x = new TamerState();
        for (int n = 0; n < 6; n++) {
            check.due("law " + n, Check.law(x, "bars"), n);
        }
        check.due("the seventh", Check.law(x, "bars"), -5);
        check.due("how many", x.count(4), 6);
        check.due("force(6)", x.force(6), -2);
        check.due("force(5)", x.force(5), -1);
    }

    private static void noneInForceAtFirst(Check check) {
        check.of(PART, "one is in FORCE (NONE at first: no CLAUSE)");
        TamerState x = Ring.of("3 4 0", "5 6");
        check.due("in force", x.count(12), -1);
        Check.law(x, "angers 1;hungers 2;pays 3;bars");
        check.due("a law is not in force by itself", x.count(12), -1);
        check.row("no clause", new int[] {x.asks(0, 0, 1), x.of(0, 3), x.at(0, 3), x.asks(0, 0, 2)}, 7, 1, 5, 0);
        x.force(0);
        check.row("its clauses", new int[] {x.asks(0, 0, 1), x.of(0, 3), x.at(0, 3), x.asks(0, 0, 2)}, 1, 2, 3, 1);
    }

    private static void lawClauses(Check check) {
        check.of(PART, "CLAUSE: ((\"angers\" | \"hungers\" | \"pays\") SUM | \"bars\") [\"if\" TEST].");
        Object[][] texts = {{"angers", 6}, {"hungers", 7}, {"pays", 4}, {"bars 1", 5}, {"angers 1=1", 8},
            {"hungers 1 if 1", 14}, {"pays 1 1=1", 7}, {"bars 1=1", 5}, {"angers if 1=1", 7}, {"bars if", 7},
            {"bars if 1=1 1", 12}, {"crack 0 at 0", 0}, {"times 2", 0}, {"if 1=1", 0}};
        for (Object[] text : texts) {
            TamerState x = new TamerState();
            check.due("law of '" + text[0] + "'", Check.law(x, (String) text[0]), -6);
            check.due("fault of '" + text[0] + "'", x.fault(), (Integer) text[1]);
        }
        for (String text : new String[] {"angers 1", "hungers 1", "pays 1", "bars", "angers 1 if 1=1", "bars if 1=1"}) {
            check.due("law of '" + text + "'", Check.law(new TamerState(), text), 0);
        }
    }

    private static void hungersOfAProvince(Check check) {
        check.of(PART, "\"hungers\" of a PROVINCE (tamer, memory, nerve, meat -1)");
        for (String word : new String[] {"tamer", "memory", "nerve", "meat"}) {
            TamerState x = Ring.of("9 1 0", "1 2");
            x.meat(0, 0);
            forced(x, "hungers 3 + " + word);
            check.due(word + " is -1", x.of(0, 3), 2);
        }
        String[] words = {"province", "hunger", "temper", "tub", "day", "mood"};
        int[] values = {1, 2, 3, 4, 5, 6};
        for (int w = 0; w < words.length; w++) {
            TamerState x = Ring.of("0 0 0, 2 3 4", "");
            x.terms(0, 5);
            x.terms(2, 6);
            forced(x, "hungers " + words[w]);
            check.due(words[w] + " is its own", x.of(1, 3), values[w]);
        }
    }

    private static void paysOfATamer(Check check) {
        check.of(PART, "\"pays\" of a TAMER (province, hunger, temper, memory, tub -1)");
        for (String word : new String[] {"province", "hunger", "temper", "memory", "tub"}) {
            TamerState x = Ring.of("9 1 3", "1 2");
            x.meat(0, 0);
            forced(x, "pays 3 + " + word);
            check.due(word + " is -1", x.at(0, 3), 2);
        }
        String[] words = {"tamer", "nerve", "meat", "day", "mood"};
        int[] values = {1, 20, 99, 55, 6};
        for (int w = 0; w < words.length; w++) {
            TamerState x = Ring.of("", "0 0, 20 99");
            x.terms(0, 55);
            x.terms(2, 6);
            forced(x, "pays " + words[w]);
            check.due(words[w] + " is its own", x.at(1, 3), values[w]);
        }
    }

    private static void angersOfBoth(Check check) {
        check.of(PART, "\"angers\", \"bars\" are asked of a TAMER and a PROVINCE");
        String[] words = {"tamer", "province", "hunger", "temper", "memory", "nerve", "meat", "tub", "day", "mood"};
        int[] values = {1, 2, 6, 8, 1, 20, 29, 7, 25, 4};
        for (int w = 0; w < words.length; w++) {
            TamerState x = Ring.of("0 0 0, 0 0 1, 9 8 7", "0 0, 20 30");
            x.terms(0, 25);
            x.terms(2, 4);
            x.meat(1, 2);
            forced(x, "angers " + words[w] + ";bars if " + words[w] + "=" + values[w]);
            check.due("angers by " + words[w], x.asks(1, 2, 1), values[w]);
            check.due("bars by " + words[w], x.asks(1, 2, 2), 1);
        }
    }

    private static void holds(Check check) {
        check.of(PART, "A CLAUSE HOLDS, if its \"if\" (if it has one) is so, and neither that nor its SUM is BROKEN.");
        String[] laws = {"angers 9", "angers 9 if 1=1", "angers 9 if 1=2", "angers 9 if 1/0=1", "angers 9/0",
            "angers 9/0 if 1=1", "angers 9 if not 1/0=1"};
        int[] want = {9, 9, 0, 0, 0, 0, 0};
        for (int n = 0; n < laws.length; n++) {
            check.due(laws[n], forced(Ring.of("0 0 0", "0 0"), laws[n]).asks(0, 0, 1), want[n]);
        }
        check.due("bars if it is so", forced(Ring.of("0 0 0", "0 0"), "bars if 1=1").asks(0, 0, 2), 1);
        check.due("bars if it is not", forced(Ring.of("0 0 0", "0 0"), "bars if 1=2").asks(0, 0, 2), 0);
        check.due("bars if BROKEN", forced(Ring.of("0 0 0", "0 0"), "bars if 1/0=1").asks(0, 0, 2), 0);
    }

    private static void angers(Check check) {
        check.of(PART, "0 .. 30 (else the nearest)");
        String[] sums = {"29", "30", "31", "1000", "1000*1000*1000", "1", "0", "0-1", "0-1000*1000*1000"};
        int[] want = {29, 30, 30, 30, 30, 1, 0, 0, 0};
        for (int n = 0; n < sums.length; n++) {
            check.due("angers " + sums[n], forced(Ring.of("5 5 0", "0 0"), "angers " + sums[n]).asks(0, 0, 1), want[n]);
        }
    }

    private static void lastThatHolds(Check check) {
        check.of(PART, "A TAMER ANGERS a PROVINCE as the last \"angers\" that HOLDS tells");
        check.due("the last", forced(Ring.of("5 5 0", "0 0"), "angers 1;angers 2;angers 3").asks(0, 0, 1), 3);
        check.due("that holds", forced(Ring.of("5 5 0", "0 0"), "angers 1;angers 2;angers 3/0;bars").asks(0, 0, 1), 2);
        check.due("the first alone", forced(Ring.of("5 5 0", "0 0"), "angers 1;angers 2 if 1=2;pays 7").asks(0, 0, 1), 1);
        check.due("none", forced(Ring.of("5 5 0", "0 0"), "angers 1/0;angers 2 if 1=2;pays 7").asks(0, 0, 1), 10);
        String eleven = "angers 4" + ";bars if 1=2".repeat(10);
        check.due("the 12th", forced(Ring.of("5 5 0", "0 0"), eleven + ";angers 5").asks(0, 0, 1), 5);
        check.due("the 1st of twelve", forced(Ring.of("5 5 0", "0 0"), eleven + ";bars").asks(0, 0, 1), 4);
    }

    private static void angersWithout(Check check) {
        check.of(PART, "without HUNGER and TEMPER less MEMORY (0 at least)");
        check.due("9 and 9", Ring.of("9 9 0", "0 0").asks(0, 0, 1), 18);
        check.due("0 and 0", Ring.of("0 0 0", "0 0").asks(0, 0, 1), 0);
        TamerState x = Ring.of("0 2 0", "0 9, 0 9");
        x.meat(0, 0);
        check.due("2 less 1", x.asks(0, 0, 1), 1);
        x.meat(0, 0);
        check.due("2 less 2", x.asks(0, 0, 1), 0);
        x.meat(0, 0);
        check.due("2 less 3", x.asks(0, 0, 1), 0);
        check.due("the other's memory is none of it", x.asks(1, 0, 1), 2);
    }

    private static void hungers(Check check) {
        check.of(PART, "a PROVINCE HUNGERS by 0 .. 9 a DAY, 1 without");
        String[] sums = {"8", "9", "10", "1000", "1", "0", "0-1", "1/0"};
        int[] want = {8, 9, 9, 9, 1, 0, 0, 1};
        for (int n = 0; n < sums.length; n++) {
            TamerState x = forced(Ring.of("0 5 0", ""), "hungers " + sums[n]);
            check.due("hungers " + sums[n], x.of(0, 3), want[n]);
            x.pass();
            check.due("a day by " + sums[n], x.of(0, 0), want[n]);
        }
        check.due("without", Ring.of("0 5 0", "").of(0, 3), 1);
        check.due("the last that holds", forced(Ring.of("0 5 0", ""), "hungers 3;hungers 4;hungers 5/0").of(0, 3), 4);
    }

    private static void paid(Check check) {
        check.of(PART, "a TAMER is PAID 0 .. 99 of MEAT a DAY, 5 without");
        String[] sums = {"98", "99", "100", "1000", "1", "0", "0-1", "1/0"};
        int[] want = {98, 99, 99, 99, 1, 0, 0, 5};
        for (int n = 0; n < sums.length; n++) {
            TamerState x = forced(Ring.of("", "0 0"), "pays " + sums[n]);
            check.due("pays " + sums[n], x.at(0, 3), want[n]);
            x.pass();
            check.due("a day by " + sums[n], x.at(0, 1), want[n]);
        }
        check.due("without", Ring.of("", "0 0").at(0, 3), 5);
        check.due("the last that holds", forced(Ring.of("", "0 0"), "pays 3;pays 4;pays 5/0").at(0, 3), 4);
    }

    private static void barred(Check check) {
        check.of(PART, "a TAMER is BARRED from a PROVINCE, if \"bars\" HOLDS");
        TamerState x = forced(Ring.of("0 0 0, 0 0 1", "0 0, 0 0"), "bars if tamer=1 and province=1;bars if 1=2");
        check.row("barred", new int[] {x.asks(0, 0, 2), x.asks(0, 1, 2), x.asks(1, 0, 2), x.asks(1, 1, 2)}, 0, 0, 0, 1);
        check.due("without a law", Ring.of("0 0 0", "0 0").asks(0, 0, 2), 0);
        check.due("by a law without bars", forced(Ring.of("0 0 0", "0 0"), "angers 1;pays 1").asks(0, 0, 2), 0);
    }

    private static void orderClauses(Check check) {
        check.of(PART, "(a TAMER, a PROVINCE; a TAMER's meat to a PROVINCE; a PROVINCE, a TUB; a DAY.)");
        TamerState x = Ring.of("5 5 0, 0 5 1, 0 5 7", "20 9, 20 9");
        check.due("crack", Check.orders(x, "crack 1 at 0"), 1);
        check.row("at a province", Ring.hungers(x), 6, 0, 0);
        check.due("feed", Check.orders(x, "feed 1 to 0"), 1);
        check.due("a province by a tamer", x.asks(1, 0, 0), 1);
        check.due("a tamer's meat", x.at(1, 1), 8);
        check.due("move", Check.orders(x, "move 2 to 4"), 1);
        check.row("a province to a tub", Ring.tubs(x), 0, 1, 4);
        check.due("pass", Check.orders(x, "pass"), 1);
        check.due("a day", x.count(13), 1);
    }

    private static void times(Check check) {
        check.of(PART, "TIMES: a NUMBER 1 .. 20.");
        Object[][] wrong = {{"pass times 0", 11}, {"pass times 21", 11}, {"pass times 000", 11}, {"pass times 1000", 11},
            {"pass times 1001", 11}, {"pass times", 10}, {"pass times day", 11}, {"pass times [2]", 11},
            {"pass times 2+1", 12}, {"pass times 99999999999999999999", 11}};
        for (Object[] text : wrong) {
            TamerState x = new TamerState();
            check.due("orders of '" + text[0] + "'", Check.orders(x, (String) text[0]), -6);
            check.due("fault of '" + text[0] + "'", x.fault(), (Integer) text[1]);
        }
        check.due("once", Check.orders(new TamerState(), "pass times 1"), 1);
        check.due("20 times", Check.orders(new TamerState(), "pass times 20"), 20);
        check.due("020 times", Check.orders(new TamerState(), "pass times 020"), 20);
    }

    private static void provinceNumbers(Check check) {
        check.of(PART, "(P: a NUMBER 0 .. 5, T: 0 .. 3)");
        for (String word : new String[] {"hunger", "temper"}) {
            for (int p = 0; p < 6; p++) {
                check.due(word + p, Check.orders(new TamerState(), "pass if " + word + " " + p + "=0-1"), 1);
            }
            for (String none : new String[] {"6", "1000", "1001", "day", "[0]", "+"}) {
                TamerState x = new TamerState();
                check.due(word + none, Check.orders(x, "pass if " + word + " " + none + "=1"), -6);
                check.due("fault of " + word + none, x.fault(), 15);
            }
        }
    }

    private static void tamerNumbers(Check check) {
        check.of(PART, "T: 0 .. 3");
        for (String word : new String[] {"meat", "arms"}) {
            for (int t = 0; t < 4; t++) {
                check.due(word + t, Check.orders(new TamerState(), "pass if " + word + " " + t + "=0-1"), 1);
            }
            for (String none : new String[] {"4", "5", "1000", "1001", "done", "("}) {
                TamerState x = new TamerState();
                check.due(word + none, Check.orders(x, "pass if " + word + " " + none + "=1"), -6);
                check.due("fault of " + word + none, x.fault(), 13);
            }
        }
    }

    private static void asideParts(Check check) {
        check.of(PART, "P, T, TIMES aside, NUMBERS and words count as PARTS.");
        String fortyNine = "pass times 20 if hunger 0" + "+hunger 5".repeat(11) + "+meat 3".repeat(12)
            + "+arms 0".repeat(12) + "+1".repeat(13);
        TamerState x = new TamerState();
        check.due("fifty", Check.orders(x, fortyNine + "=0"), 0);
        check.due("fault()", x.fault(), -1);
        check.due("fifty-one", Check.orders(x, fortyNine + "=0+temper 9"), -6);
        check.due("at the 51st's word, ahead of its P", x.fault(), fortyNine.length() + 3);
        check.due("one of fifty with a P that can't be", Check.orders(x, fortyNine + "=temper 9"), -6);
        check.due("at its P", x.fault(), fortyNine.length() + 8);
    }

    private static void onceWithout(Check check) {
        check.of(PART, "Run CLAUSE by CLAUSE, each as often as TIMES tell (once without)");
        TamerState x = Ring.of("9 0 0", "0 9");
        check.due("how many", Check.orders(x, "pass;feed 0 to 0 times 2;pass times 3"), 6);
        int[] kinds = {x.undo(), x.undo(), x.undo(), x.undo(), x.undo(), x.undo(), x.undo()};
        check.row("from the last", kinds, 3, 3, 3, 1, 1, 3, -3);
    }

    private static void ifEachTime(Check check) {
        check.of(PART, "each time its \"if\" is asked (not run, if it is not so or BROKEN)");
        TamerState x = new TamerState();
        check.due("two of three times", Check.orders(x, "pass times 3 if day<2"), 2);
        check.due("not so", Check.orders(x, "pass if day=3"), 0);
        check.due("so", Check.orders(x, "pass if day=2"), 1);
        check.due("BROKEN", Check.orders(x, "pass if 1/[day-3]=1"), 0);
        check.due("not of BROKEN", Check.orders(x, "pass if not 1/[day-3]=1"), 0);
        check.due("not BROKEN any more", Check.orders(x, "pass;pass if 1/[day-3]=1"), 2);
        check.due("it is no one that can't be", x.stopped(), -1);
        check.due("a later time again", Check.orders(x, "pass times 4 if done%2=0;pass times 2 if done=1"), 2);
    }

    private static void sumsFromTheLeft(Check check) {
        check.of(PART, "then its SUMS from the left");
        TamerState x = Ring.of("0 0 0", "0 9");
        check.due("not asked ahead of the if", Check.orders(x, "crack 1/0 at 1/0 if 1=2"), 0);
        check.due("the left one is BROKEN", Check.orders(x, "feed 1/0 to 0"), -3);
        check.due("the right one is BROKEN", Check.orders(x, "feed 0 to 1/0"), -3);
        check.due("neither", Check.orders(x, "feed 0/1 to 0/1"), 1);
        check.due("each time anew", Check.orders(x, "move 0 to 1+done times 7"), 7);
        check.due("the tub", x.of(0, 2), 7);
    }

    private static void done(Check check) {
        check.of(PART, "done: how many were run in this TEXT");
        TamerState x = new TamerState();
        check.due("none yet", Check.orders(x, "pass if done=0;pass if done=1;pass if done=1;pass if done=2"), 3);
        check.due("anew in each text", Check.orders(x, "pass if done=0"), 1);
        String most = "pass times 20" + ";pass times 20".repeat(10) + ";pass times 20 if done<230";
        check.due("up to 230", Check.orders(x, most), 230);
        TamerState y = new TamerState();
        check.due("12 times 20", Check.orders(y, "pass times 20" + ";pass times 20".repeat(11)), 240);
    }

    private static void latest(Check check) {
        check.of(PART, "latest: what the latest crack in it told (-1: none)");
        TamerState x = Ring.of("0 0 0, 0 3 3, 0 4 5", "0 0");
        check.due("none", Check.orders(x, "pass if latest=0-1;pass if latest=0"), 1);
        x.undo();
        check.due("a jump", Check.orders(x, "crack 0 at 0;pass if latest=2"), 2);
        x.undo();
        check.due("not of the text ahead", Check.orders(x, "pass if latest=2"), 0);
        check.due("of this text alone", Check.orders(x, "pass if latest=0-1"), 1);
        x.undo();
        check.due("a balk", Check.orders(x, "crack 0 at 1;pass if latest=1"), 2);
        x.undo();
        check.due("a bite", Check.orders(x, "crack 0 at 2;pass if latest=0"), 2);
        x.undo();
        TamerState y = Ring.of("0 0 0, 0 4 5", "0 9");
        check.due("the latest", Check.orders(y, "crack 0 at 0;crack 0 at 1;feed 0 to 0;pass if latest=0"), 4);
    }

    private static void withoutSuchAOne(Check check) {
        check.of(PART, "hunger, temper, meat, arms: -1 without such a one");
        TamerState x = Ring.of("4 5 0", "6 7");
        String[] there = {"hunger 0=4", "temper 0=5", "meat 0=7", "arms 0=2"};
        for (String test : there) {
            check.due(test, Check.orders(x, "move 0 to 1 if " + test + ";move 0 to 0 if done=1"), 2);
        }
        String[] none = {"hunger 1=0-1", "hunger 5=0-1", "temper 1=0-1", "temper 5=0-1", "meat 1=0-1", "meat 3=0-1",
            "arms 1=0-1", "arms 3=0-1"};
        for (String test : none) {
            check.due(test, Check.orders(x, "move 0 to 1 if " + test + ";move 0 to 0 if done=1"), 2);
        }
    }

    /** On the last day but one; tamer 1 is barred from province 1. */
    private static TamerState ring() {
        TamerState x = Ring.of("9 9 0, 9 9 1", "0 1, 20 0");
        x.terms(0, 998);
        x.move(1, 3);
        return forced(x, "bars if province=1 and tamer=1");
    }

    private static void stops(Check check, String order) {
        TamerState x = ring();
        String ahead = Ring.kept(x);
        check.due(order, Check.orders(x, order), -3);
        check.due("stopped() by " + order, x.stopped(), 0);
        check.same("all as it was ahead of " + order, Ring.kept(x), ahead);
        check.due("what can be undone", x.count(5), 1);
    }

    private static void runs(Check check, String order, int times) {
        TamerState x = ring();
        check.due(order, Check.orders(x, order), times);
        check.due("stopped() by " + order, x.stopped(), -1);
        check.due("what can be undone", x.count(5), 1 + times);
    }

    private static void brokenSumEnds(Check check) {
        check.of(PART, "One that can't be (a BROKEN SUM");
        stops(check, "crack 0/0 at 0");
        stops(check, "crack 0 at 0%0");
        runs(check, "crack 0/1 at 0%1", 1);
        stops(check, "feed 1000*1000*1000+1-1000*1000*1000-1 to 0");
        runs(check, "feed 1000*1000*1000-1000*1000*1000 to 0", 1);
        stops(check, "move 0 to 4/0");
        runs(check, "move 0 to 4/1", 1);
    }

    private static void refusedOnesEnd(Check check) {
        check.of(PART, "as crack(), meat(), move(), pass() are REFUSED) ends it");
        stops(check, "crack 2 at 0");
        stops(check, "crack 0 at 2");
        stops(check, "crack 0-1 at 0");
        stops(check, "crack 0 at 0-1");
        stops(check, "crack 0 at 0 times 3");
        runs(check, "crack 0 at 0 times 2", 2);
        stops(check, "crack 1 at 1");
        runs(check, "crack 1 at 0", 1);
        stops(check, "feed 1 to 0");
        stops(check, "feed 0 to 0 times 2");
        stops(check, "feed 0 to 2");
        runs(check, "feed 0 to 1", 1);
        stops(check, "move 0 to 8");
        stops(check, "move 0 to 0-1");
        stops(check, "move 0 to 3");
        stops(check, "move 0 to 0");
        stops(check, "move 2 to 5");
        runs(check, "move 0 to 7", 1);
        stops(check, "pass times 2");
        runs(check, "pass times 1", 1);
    }

    private static void allAsItWas(Check check) {
        check.of(PART, "all is as it was ahead of it");
        TamerState x = Ring.of("5 5 0, 5 5 1", "20 50, 4 9");
        String first = Ring.kept(x);
        x.meat(1, 0);
        x.pass();
        String ahead = Ring.kept(x);
        String many = "pass times 20;feed 0 to 1 times 3;move 0 to 7;crack 0 at 0;crack 1 at 1";
        check.due("the last can't be", Check.orders(x, many + ";move 0 to 7"), -3);
        check.due("stopped()", x.stopped(), 5);
        check.same("all", Ring.kept(x), ahead);
        check.due("what can be undone", x.count(5), 2);
        check.row("and how", new int[] {x.undo(), x.undo(), x.undo()}, 3, 1, -3);
        check.same("undone to the first", Ring.kept(x), first);
        check.due("the same without it", Check.orders(x, many), 26);
        check.due("what can be undone", x.count(5), 16);
    }
}
