/** Promises 13, 15, 17, and both languages' sums and tests: law, fault, force. */
public final class LawTest {
    public static void main(String[] args) {
        Check check = new Check("LawTest");
        laws(check);
        force(check);
        faults(check);
        limits(check);
        sums(check);
        broken(check);
        tests(check);
        words(check);
        wordsThatAreNone(check);
        lastThatHolds(check);
        bars(check);
        check.close();
    }

    private static void laws(Check check) {
        TamerState x = new TamerState();
        for (int n = 0; n < 6; n++) {
            check.due("law " + n, Check.law(x, "angers " + n), n);
            check.due("count(6)", x.count(6), 0);
        }
        check.due("count(4)", x.count(4), 6);
        check.due("wrong orders", Check.orders(x, "pass pass"), -6);
        check.due("fault()", x.fault(), 5);
        check.due("no room, ahead of reading", Check.law(x, "angers angers"), -5);
        check.due("status()", x.status(), -5);
        check.due("the tape is empty then", x.count(6), 0);
        check.due("it did not read", x.fault(), 5);
        check.due("count(10)", x.count(10), 1);
        check.due("right orders", Check.orders(x, "pass"), 1);
        check.due("fault()", x.fault(), -1);
    }

    private static void force(Check check) {
        TamerState x = new TamerState();
        check.due("force(0)", x.force(0), -2);
        check.due("count(12)", x.count(12), -1);
        check.due("force(-1)", x.force(-1), -1);
        check.due("it is not REFUSED", x.status(), 0);
        Check.law(x, "hungers 4");
        Check.law(x, "hungers 5");
        x.province(0, 0, 0);
        check.due("not in force", x.of(0, 3), 1);
        check.due("force(1)", x.force(1), -1);
        check.due("status()", x.status(), 0);
        check.due("in force", x.of(0, 3), 5);
        check.due("force(0)", x.force(0), 1);
        check.due("in force", x.of(0, 3), 4);
        check.due("force(2)", x.force(2), -2);
        check.due("force(-2)", x.force(-2), -2);
        check.due("count(12)", x.count(12), 0);
        check.due("force(-1)", x.force(-1), 0);
        check.due("count(12)", x.count(12), -1);
        check.due("count(8)", x.count(8), 3);
    }

    private static void faults(Check check) {
        Object[][] laws = {
            {"", 0}, {"     ", 5}, {"angers", 6}, {"angers   ", 9}, {"  angers", 8}, {"Angers 1", 0}, {"angerss 1", 0},
            {"angers 1;", 9}, {"angers 1; ", 10}, {";angers 1", 0}, {"angers 1 2", 9}, {"angers 1 hungers 2", 9},
            {"angers 1001", 7}, {"angers 10000", 7}, {"angers 10001", 7}, {"angersz 1", 0}, {"angers az 1", 7},
            {"angers [", 8}, {"angers 1*", 9}, {"angers 1 if (", 13}, {"angers 1 if [", 13}, {"angers 1 if 1=", 14},
            {"angers 1 if 1=1 and", 19}, {"angers 1 if (1=1 or", 19}, {"angers [1+", 10}, {"angers [1*", 10},
            {"angers 99999999999999999999999999", 7}, {"angers -1", 7}, {"angers (1)", 7},
            {"angers [1", 9}, {"angers [1)", 9}, {"angers []", 8}, {"angers 1+", 9}, {"angers 1+*2", 9},
            {"angers 1 if", 11}, {"angers 1 if 1", 13}, {"angers 1 if 1+1", 15}, {"angers 1 if [1=1]", 14},
            {"angers 1 if (1=1", 16}, {"angers 1 if (1)", 14}, {"angers 1 if 1=1=1", 15}, {"angers 1 if 1<=1", 14},
            {"angers 1 if not", 15}, {"angers 1 if 1=1 or", 18}, {"angers 1 if 1=1 and or 1=1", 20},
            {"angers 1 if 1=1 not 1=1", 16}, {"angers 1 if (1=1))", 17}, {"angers 1 if ()", 13},
            {"angers 1\tif 1=1", 8}, {"angers 1\u00e9", 8}, {"bars 1", 5}, {"bars bars", 5}, {"pays hungers", 5},
            {"pays done", 5}, {"pays latest", 5}, {"pays arms", 5}, {"pays 1 times 2", 7}, {"crack 1 at 2", 0},
            {"angers 1 if 1=1 if 1=1", 16}, {"angers hunger 1", 14}, {"angers1if2", 10},
        };
        for (Object[] law : laws) {
            TamerState x = new TamerState();
            check.due("law of '" + law[0] + "'", Check.law(x, (String) law[0]), -6);
            check.due("fault of '" + law[0] + "'", x.fault(), (Integer) law[1]);
            check.due("the tape is empty then", x.count(6), 0);
            check.due("count(4)", x.count(4), 0);
        }
        String[] fine = {
            "bars", "  bars  ", "angers1", "angers[[1]]if((1=1))", "angers 1000", "angers 0000001", "bars;bars;bars",
            "bars if not not not 1=2", "bars ; pays meat", "angers 1+2-3*4/5%6", "bars if 1=1 or 2=2 and 3=3",
        };
        for (String law : fine) {
            TamerState x = new TamerState();
            check.due("law of '" + law + "'", Check.law(x, law), 0);
            check.due("fault of '" + law + "'", x.fault(), -1);
        }
    }

    private static void limits(Check check) {
        TamerState x = new TamerState();
        String twelve = "bars" + ";bars".repeat(11);
        check.due("twelve clauses", Check.law(x, twelve), 0);
        check.due("thirteen", Check.law(x, twelve + "; bars"), -6);
        check.due("at the 13th's first token", x.fault(), twelve.length() + 2);
        check.due("thirteen, of which the last is nothing", Check.law(x, twelve + ";  "), -6);
        check.due("at the end", x.fault(), twelve.length() + 3);
        String fifty = "angers 1" + "+day".repeat(49);
        check.due("fifty parts", Check.law(x, fifty), 1);
        check.due("fifty-one", Check.law(x, fifty + "+  tub"), -6);
        check.due("at the 51st", x.fault(), fifty.length() + 3);
        check.due("fifty-one in two clauses", Check.law(x, fifty + ";bars if 1=1"), -6);
        check.due("at the 51st", x.fault(), fifty.length() + 9);
        String deep = "bars if " + "(".repeat(4) + "[".repeat(4);
        check.due("eight brackets", Check.law(x, deep + "1]]]]=1))))"), 2);
        check.due("nine", Check.law(x, deep + "[1]]]]]=1))))"), -6);
        check.due("at the 9th", x.fault(), deep.length());
        check.due("nine of one kind", Check.law(x, "bars if " + "(".repeat(9) + "1=1" + ")".repeat(9)), -6);
        check.due("at the 9th", x.fault(), 16);
        check.due("eight of one kind", Check.law(x, "angers [[[[[[[[1]]]]]]]]"), 3);
        check.due("nine of one kind", Check.law(x, "angers [[[[[[[[[1]]]]]]]]]"), -6);
        check.due("at the 9th", x.fault(), 15);
        x.image(0);
        check.due("nine, not within one another", Check.law(x, "angers " + "[1]+".repeat(9) + "1"), 4);
        x.back(0);
        check.due("many nots", Check.law(x, "bars if " + "not ".repeat(97) + "1=2"), 4);
        x.force(4);
        x.province(0, 0, 0);
        x.tamer(0, 0);
        check.due("an odd many", x.asks(0, 0, 2), 1);
        check.due("a text of 400 bytes", Check.law(x, "angers 12" + " ".repeat(391)), 5);
        x.force(5);
        check.due("it tells", x.asks(0, 0, 1), 12);
    }

    /** What a sum tells, 0 .. 30; -1: the clause does not hold (hunger and temper are 17 then). */
    private static int sum(String sum) {
        TamerState x = new TamerState();
        x.province(9, 8, 4);
        x.tamer(7, 6);
        if (Check.forced(x, "angers " + sum) < 0) {
            return -2;
        }
        int angers = x.asks(0, 0, 1);
        return angers == 17 ? -1 : angers;
    }

    private static void sums(Check check) {
        check.due("1+2*3", sum("1+2*3"), 7);
        check.due("[1+2]*3", sum("[1+2]*3"), 9);
        check.due("9-3-2", sum("9-3-2"), 4);
        check.due("9-[3-2]", sum("9-[3-2]"), 8);
        check.due("20/3/2", sum("20/3/2"), 3);
        check.due("20/[3/2]", sum("20/[3/2]"), 20);
        check.due("20%7*2", sum("20%7*2"), 12);
        check.due("2*7%4", sum("2*7%4"), 2);
        check.due("cut towards 0", sum("10+[0-7]/2"), 7);
        check.due("what is left then", sum("10+[0-7]%2"), 9);
        check.due("left of a divisor below 0", sum("7%[0-4]"), 3);
        check.due("by a divisor below 0", sum("20+7/[0-4]"), 19);
        check.due("1000/1000", sum("1000/1000"), 1);
        check.due("0007", sum("0007"), 7);
        check.due("beyond 30", sum("1000"), 30);
        check.due("below 0", sum("0-1000"), 0);
    }

    private static void broken(Check check) {
        check.due("/ 0", sum("1/0"), -1);
        check.due("% 0", sum("1%[3-3]"), -1);
        check.due("0 / 0", sum("0/0"), -1);
        check.due("1,000,000,000", sum("1000*1000*1000"), 30);
        check.due("1,000,000,001", sum("1000*1000*1000+1"), -1);
        check.due("below -1,000,000,000", sum("0-1000*1000*1000-1"), -1);
        check.due("-1,000,000,000", sum("0-1000*1000*1000"), 0);
        check.due("beyond on the way", sum("1000*1000*1000*2-1000*1000*1000"), -1);
        check.due("broken, times 0", sum("0*[1/0]"), -1);
        check.due("both at the limit", sum("[1000*1000*1000]*[1000*1000*1000]"), -1);
        check.due("a test's sum", sum("3 if 1/0=1"), -1);
        check.due("not of it", sum("3 if not 1/0=1"), -1);
        check.due("a sum in a bracket", sum("3 if (not (1/0=1))"), -1);
    }

    private static void tests(Check check) {
        String[] so = {
            "1=1", "1<2", "2>1", "not 1=2", "not not 1=1", "1=1 or 1=2", "1=2 or 1=1", "1=1 and 2=2", "(1=1)",
            "1=1 or 1=2 and 1=2", "not 1=2 and 1=1", "not (1=2 or 1=2)", "1=1 or 1/0=1", "1=2 and 1/0=1 or 1=1",
            "1=1 or (1/0=1 or 1=1)", "not (1=2 and 1/0=1)", "1=2 or 1=2 or 1=1", "1+1=2", "1=1 or 1=2 or 1/0=1",
        };
        for (String test : so) {
            check.due(test, sum("3 if " + test), 3);
        }
        String[] not = {
            "1=2", "2<1", "1<1", "not 1<2", "not 2>1", "1>1", "1>2", "not 1=1", "1=2 or 1=2", "1=1 and 1=2", "1=2 and 1=1",
            "(1=1 or 1=2) and 1=2", "not 1=1 or 1=2", "not (1=1 or 1=2)", "1/0=1 or 1=1", "1/0=1 and 1=2",
            "1=2 or 1/0=1", "1=1 and 1/0=1", "1=2 and 1/0=1", "1=1 and (1=2 or 1/0=1)", "not (1/0=1 and 1=2)",
        };
        for (String test : not) {
            check.due(test, sum("3 if " + test), -1);
        }
    }

    private static void words(Check check) {
        TamerState x = new TamerState();
        x.province(1, 1, 1);
        x.province(3, 4, 5);
        x.tamer(1, 1);
        x.tamer(17, 20);
        x.terms(0, 21);
        x.terms(2, 9);
        x.meat(1, 1);
        String[] words = {"tamer", "province", "hunger", "temper", "memory", "nerve", "meat", "tub", "day", "mood"};
        int[] values = {1, 1, 0, 4, 1, 17, 19, 5, 21, 9};
        for (int w = 0; w < words.length; w++) {
            x.image(0);
            Check.forced(x, "angers 0;angers " + words[w] + " if " + words[w] + ">0");
            check.due(words[w], x.asks(1, 1, 1), values[w]);
            Check.forced(x, "bars if " + words[w] + "=" + values[w]);
            check.due(words[w], x.asks(1, 1, 2), 1);
            x.back(0);
        }
    }

    private static void wordsThatAreNone(Check check) {
        TamerState x = new TamerState();
        x.province(3, 4, 5);
        x.tamer(17, 20);
        x.meat(0, 0);
        String[] ofTamer = {"tamer", "memory", "nerve", "meat"};
        for (String word : ofTamer) {
            x.image(0);
            Check.forced(x, "hungers 7 if " + word + " = 0 - 1");
            check.due("hungers: " + word, x.of(0, 3), 7);
            x.back(0);
        }
        String[] ofProvince = {"province", "hunger", "temper", "memory", "tub"};
        for (String word : ofProvince) {
            x.image(0);
            Check.forced(x, "pays 7 if " + word + " = 0 - 1");
            check.due("pays: " + word, x.at(0, 3), 7);
            x.back(0);
        }
        x.terms(0, 8);
        x.terms(2, 4);
        Check.forced(x, "hungers province + hunger + temper + tub - day;pays tamer + nerve + meat + day + mood");
        check.due("hungers of its own", x.of(0, 3), 0 + 0 + 4 + 5 - 8);
        check.due("pays of its own", x.at(0, 3), 0 + 17 + 19 + 8 + 4);
    }

    private static void lastThatHolds(Check check) {
        TamerState x = new TamerState();
        x.province(2, 3, 0);
        x.tamer(9, 9);
        Check.forced(x, "angers 11;angers 12 if 1=1;angers 13 if 1=2;angers 14/0;angers 15 if 1/0=1;pays 16;hungers 8");
        check.due("the last that holds", x.asks(0, 0, 1), 12);
        check.due("pays", x.at(0, 3), 16);
        check.due("hungers", x.of(0, 3), 8);
        Check.forced(x, "angers 13 if 1=2;pays 3;pays 4;hungers 2;hungers 3;pays 5 if nerve = 8");
        check.due("none holds", x.asks(0, 0, 1), 5);
        check.due("pays", x.at(0, 3), 4);
        check.due("hungers", x.of(0, 3), 3);
    }

    private static void bars(Check check) {
        TamerState x = new TamerState();
        x.province(2, 3, 0);
        x.province(2, 4, 1);
        x.tamer(9, 9);
        Check.forced(x, "bars if temper = 4;bars if 1=2;bars if 1/0=1");
        check.due("asks(0, 0, 2)", x.asks(0, 0, 2), 0);
        check.due("any that holds", x.asks(0, 1, 2), 1);
        check.due("crack(0, 1)", x.crack(0, 1), -3);
        check.due("meat(0, 1)", x.meat(0, 1), 0);
        check.due("crack(0, 0)", x.crack(0, 0), 2);
        check.due("no bar by its temper now", x.crack(0, 1), 2);
    }
}
