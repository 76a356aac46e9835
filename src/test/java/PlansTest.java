/** Promises 23 to 25, 31 to 33, 35: show, least, seats, governed, calmest, cubs, compare. */
public final class PlansTest {
    public static void main(String[] args) {
        Check check = new Check("PlansTest");
        shows(check);
        showsByLaw(check);
        showsThatCannotBe(check);
        leastMeat(check);
        leastByLaw(check);
        seats(check);
        seatsInFeuds(check);
        governed(check);
        governedByLaw(check);
        calmest(check);
        cubs(check);
        cubsByLaw(check);
        compared(check);
        onPaper(check);
        check.close();
    }

    private static void row(Check check, String what, int[] got, int... want) {
        check.due(what + ": how long", got.length, want.length);
        for (int i = 0; i < want.length && i < got.length; i++) {
            check.due(what + ": " + i, got[i], want[i]);
        }
    }

    private static void shows(Check check) {
        TamerState x = new TamerState();
        x.province(2, 3, 0);
        x.province(2, 5, 1);
        x.province(0, 6, 2);
        x.tamer(6, 0);
        // 1 angers by 7: it balks as the first, it jumps behind a neighbour that jumped
        check.due("show(0, 2, -1)", x.show(0, 2, -1), 1);
        check.due("show(0, 3, -1)", x.show(0, 3, -1), 0);
        row(check, "0 ahead of 1", new int[] {x.show(0, 3, 0), x.show(0, 3, 1)}, 0, 1);
        row(check, "2 ahead of 1", new int[] {x.show(0, 6, 0), x.show(0, 6, 1)}, 2, 1);
        check.due("all", x.show(0, 7, -1), 0);
        row(check, "all", new int[] {x.show(0, 7, 0), x.show(0, 7, 1), x.show(0, 7, 2)}, 0, 1, 2);
        check.due("none", x.show(0, 0, -1), 0);
        check.due("none has no first", x.show(0, 0, 0), -1);
        check.due("i 2 of two", x.show(0, 3, 2), -1);
        check.due("i -2", x.show(0, 3, -2), -1);
        check.due("not all of them", x.show(0, 8, -1), -1);
        check.due("not all of them", x.show(0, 9, -1), -1);
        check.due("bits below 0", x.show(0, -1, -1), -1);
        check.due("the highest bit", x.show(0, Integer.MIN_VALUE, -1), -1);
        check.due("no tamer", x.show(1, 3, -1), -1);
        check.due("no tamer", x.show(-1, 3, -1), -1);
    }

    private static void showsByLaw(Check check) {
        TamerState x = new TamerState();
        x.province(0, 2, 0);
        x.province(0, 3, 1);
        x.province(0, 2, 2);
        x.tamer(9, 0);
        // 1 is barred until a neighbour has jumped, 2 until it balked or 1 jumped
        Check.forced(x, "bars if province = 1 and temper > 2;bars if province = 2 and temper > 1");
        check.due("barred alone", x.show(0, 2, -1), -1);
        check.due("2 barred alone", x.show(0, 4, -1), -1);
        check.due("in a row", x.show(0, 7, -1), 0);
        row(check, "in a row", new int[] {x.show(0, 7, 0), x.show(0, 7, 1), x.show(0, 7, 2)}, 0, 1, 2);
    }

    private static void showsThatCannotBe(Check check) {
        TamerState x = new TamerState();
        x.province(5, 5, 0);
        x.province(5, 3, 1);
        x.tamer(6, 0);
        x.tamer(5, 0);
        check.due("it bites alone", x.show(0, 1, -1), -1);
        check.due("i of what can't be", x.show(0, 1, 0), -1);
        // 1 angers by 8 and balks, so that 0 is the angrier: 11 against 6; 0 as the first bites by 10
        check.due("both", x.show(0, 3, -1), -1);
        x.province(0, 0, 7);
        // 2 jumps: 0 angers by 9 and balks, 1 then by 9 and balks
        check.due("all", x.show(0, 7, -1), 2);
        row(check, "all", new int[] {x.show(0, 7, 0), x.show(0, 7, 1), x.show(0, 7, 2)}, 2, 0, 1);
        TamerState y = new TamerState();
        y.province(9, 9, 0);
        y.province(0, 0, 4);
        y.tamer(0, 0);
        y.crack(0, 0);
        y.crack(0, 0);
        check.due("arms aside", y.show(0, 2, -1), 0);
        TamerState z = new TamerState();
        for (int p = 0; p < 6; p++) {
            z.province(0, p == 0 ? 0 : 9, p);
        }
        z.tamer(0, 0);
        Check.forced(z, "angers 3");
        check.due("all balk", z.show(0, 63, -1), 6);
        row(check, "all", new int[] {z.show(0, 63, 0), z.show(0, 63, 3), z.show(0, 63, 5), z.show(0, 63, 6)}, 0, 3, 5, -1);
        Check.forced(z, "angers 4 if tub = 5");
        check.due("the last bites", z.show(0, 63, -1), -1);
        check.due("the first alone", z.show(0, 1, 0), 0);
        Check.forced(z, "angers 4 if temper > 8;angers 0 if temper < 9");
        check.due("0 ahead of 1, 1 ahead of 2", z.show(0, 63, -1), 0);
        row(check, "all", new int[] {z.show(0, 63, 0), z.show(0, 63, 1), z.show(0, 63, 4), z.show(0, 63, 5)}, 0, 1, 4, 5);
        check.due("not without 0", z.show(0, 62, -1), -1);
    }

    private static void leastMeat(Check check) {
        TamerState x = new TamerState();
        x.tamer(4, 0);
        x.tamer(0, 50);
        check.due("no provinces", x.least(0, 0), 0);
        check.due("no province 0", x.least(0, 1), -1);
        x.province(2, 2, 0);
        x.province(4, 4, 1);
        x.province(9, 9, 2);
        // 8; 1 + 4 - 1 = 4
        row(check, "by 4", new int[] {x.least(0, 1), x.least(0, 2)}, 0, 1);
        // 18; 6 + 9 - 1, 3 + 9 - 2, 0 + 9 - 3, 9 - 4, 9 - 5 = 4
        check.due("least(0, 3)", x.least(0, 3), 5);
        check.due("together, meat aside", x.least(0, 0), 6);
        // 4: 0 + 2 - 1, 2 - 2; 8: 1 + 4 - 1, 0 + 4 - 2, 4 - 3, 4 - 4
        row(check, "by 0", new int[] {x.least(1, 1), x.least(1, 2), x.least(1, 0)}, 2, 4, 2 + 4 + 9);
        check.due("by 9 at most", x.least(1, 3), 9);
        check.due("no province 3", x.least(0, 4), -1);
        check.due("what -1", x.least(0, -1), -1);
        check.due("no tamer", x.least(2, 0), -1);
        x.meat(1, 2);
        check.due("another's feeding helps by hunger alone", x.least(0, 3), 5);
        check.due("its own by memory", x.least(1, 3), 8);
        check.due("count(7)", x.count(7), 0);
    }

    private static void leastByLaw(Check check) {
        TamerState x = new TamerState();
        x.province(5, 0, 0);
        x.province(2, 0, 4);
        x.tamer(6, 3);
        Check.forced(x, "angers 7 if memory < 9");
        check.due("nine", x.least(0, 1), 9);
        Check.forced(x, "angers 7 + memory if tub = 4");
        check.due("not by 9", x.least(0, 2), -1);
        check.due("the other", x.least(0, 1), 0);
        check.due("not all", x.least(0, 0), -1);
        Check.forced(x, "angers meat + hunger");
        check.due("meat stays as it is", x.least(0, 1), 1);
    }

    private static void seats(Check check) {
        TamerState x = new TamerState();
        check.due("no provinces", x.seats(0), 0);
        check.due("no province 0", x.seats(1), -1);
        for (int p = 0; p < 4; p++) {
            x.province(0, 0, p == 3 ? 7 : p);
        }
        check.due("no feud", x.seats(0), 0);
        row(check, "as they are", new int[] {x.seats(1), x.seats(2), x.seats(3), x.seats(4)}, 0, 1, 2, 7);
        x.feud(0, 3, 1);
        check.due("7 is beside 0", x.seats(0), 1);
        row(check, "0 to the first free one", new int[] {x.seats(1), x.seats(2), x.seats(3), x.seats(4)}, 0, 1, 2, 3);
        check.due("what 5", x.seats(5), -1);
        check.due("what -1", x.seats(-1), -1);
    }

    private static void seatsInFeuds(Check check) {
        TamerState x = new TamerState();
        for (int p = 0; p < 4; p++) {
            x.province(0, 0, p);
            for (int q = 0; q < p; q++) {
                x.feud(p, q, 1);
            }
        }
        check.due("four on every other", x.seats(0), 2);
        row(check, "first", new int[] {x.seats(1), x.seats(2), x.seats(3), x.seats(4)}, 0, 4, 2, 6);
        x.province(0, 0, 5);
        for (int q = 0; q < 4; q++) {
            x.feud(4, q, 1);
        }
        check.due("five can't", x.seats(0), -1);
        check.due("no tub of any", x.seats(1), -1);
        check.due("nothing has moved", x.of(1, 2), 1);
    }

    private static void governed(Check check) {
        TamerState x = new TamerState();
        check.due("nobody", x.governed(0), 0);
        x.province(3, 0, 0);
        x.province(1, 0, 1);
        x.province(1, 0, 2);
        check.due("no tamers", x.governed(0), 0);
        check.due("no tamers", x.governed(1), 100);
        x.tamer(1, 0);
        row(check, "by one", new int[] {x.governed(0), x.governed(1), x.governed(2), x.governed(3)}, 2, 100, 0, 0);
        x.tamer(3, 0);
        row(check, "by two", new int[] {x.governed(0), x.governed(1), x.governed(2), x.governed(3)}, 3, 1, 0, 0);
        x.province(3, 0, 3);
        x.province(1, 0, 4);
        check.due("two each", x.governed(0), 4);
        row(check, "the first row", new int[] {x.governed(1), x.governed(2), x.governed(3), x.governed(4), x.governed(5)},
            1, 0, 0, 1, 100);
        check.due("what 6", x.governed(6), -1);
        check.due("what -1", x.governed(-1), -1);
    }

    private static void governedByLaw(Check check) {
        TamerState x = new TamerState();
        x.province(0, 0, 0);
        x.province(0, 0, 1);
        x.tamer(5, 0);
        x.tamer(5, 0);
        Check.forced(x, "bars if tamer = 0 and province = 1");
        row(check, "not barred", new int[] {x.governed(0), x.governed(1), x.governed(2)}, 2, 0, 1);
        Check.forced(x, "bars if province = 0");
        row(check, "barred", new int[] {x.governed(0), x.governed(1), x.governed(2)}, 1, 100, 0);
        Check.forced(x, "angers 6 if tamer = 0");
        row(check, "not loyal", new int[] {x.governed(0), x.governed(1), x.governed(2)}, 2, 1, 1);
    }

    private static void calmest(Check check) {
        TamerState x = new TamerState();
        x.province(9, 9, 0);
        check.due("no tamers", x.calmest(0), -1);
        for (int t = 0; t < 3; t++) {
            x.tamer(t, 9);
        }
        check.due("the lowest", x.calmest(0), 0);
        x.meat(2, 0);
        check.due("who fed it", x.calmest(0), 2);
        x.meat(1, 0);
        check.due("the lowest of both", x.calmest(0), 1);
        Check.forced(x, "angers nerve * 3 % 5");
        check.due("by law", x.calmest(0), 0);
        Check.forced(x, "angers 9 - nerve");
        check.due("by law", x.calmest(0), 2);
        check.due("no province", x.calmest(1), -1);
        check.due("no province", x.calmest(-1), -1);
    }

    private static int[] fed(TamerState x, int t, int n) {
        int[] fed = new int[n];
        for (int i = 0; i < n; i++) {
            fed[i] = x.cubs(t, n, i);
        }
        return fed;
    }

    private static void cubs(Check check) {
        TamerState x = new TamerState();
        x.tamer(4, 0);
        check.due("no provinces", x.cubs(0, 2, -1), 0);
        row(check, "none is fed", fed(x, 0, 2), 100, 100);
        x.province(4, 0, 0);
        x.province(3, 1, 1);
        check.due("now", x.cubs(0, 0, -1), 2);
        // a day on: 5 and 4 + 1, so one is fed
        check.due("a day on", x.cubs(0, 1, -1), 1);
        row(check, "a day on", fed(x, 0, 1), 0);
        // fed on the first day 4 - 3 + 2 - 1 = 2, on the second 4 + 1 - 3 + 1 - 1 = 2
        check.due("two days on", x.cubs(0, 2, -1), 2);
        row(check, "two days on", fed(x, 0, 2), 0, 1);
        check.due("four days on", x.cubs(0, 4, -1), 2);
        row(check, "four days on", fed(x, 0, 4), 0, 0, 0, 1);
        check.due("n 5", x.cubs(0, 5, -1), -1);
        check.due("n -1", x.cubs(0, -1, -1), -1);
        check.due("i as n", x.cubs(0, 2, 2), -1);
        check.due("i -2", x.cubs(0, 2, -2), -1);
        check.due("i 0 of no days", x.cubs(0, 0, 0), -1);
        check.due("no tamer", x.cubs(1, 1, -1), -1);
        TamerState y = new TamerState();
        y.province(1, 0, 0);
        y.tamer(0, 0);
        // fed, then hungry: 0 + 1 - 1 = 0
        check.due("feeding is ahead of hunger", y.cubs(0, 1, -1), 1);
        TamerState z = new TamerState();
        z.province(9, 0, 0);
        z.province(9, 0, 1);
        z.province(9, 9, 2);
        z.tamer(9, 0);
        check.due("9 at most", z.cubs(0, 1, -1), 2);
        row(check, "the first row", fed(z, 0, 1), 0);
        // 2 is fed on the last three days: 7, 5, 3, and 3 + 9 - 3 = 9
        check.due("9 at most", z.cubs(0, 4, -1), 3);
        row(check, "the first row", fed(z, 0, 4), 0, 2, 2, 2);
    }

    private static void cubsByLaw(Check check) {
        TamerState x = new TamerState();
        x.province(5, 5, 0);
        x.province(5, 5, 1);
        x.tamer(5, 0);
        Check.forced(x, "angers 6 if memory < 2;angers 5 if memory > 1;hungers 9;pays 9");
        check.due("two feedings", x.cubs(0, 2, -1), 1);
        row(check, "of the first", fed(x, 0, 2), 0, 0);
        row(check, "or of the first of three days", fed(x, 0, 3), 0, 0, 0);
        check.due("four feedings", x.cubs(0, 4, -1), 2);
        row(check, "of both", fed(x, 0, 4), 0, 0, 1, 1);
        Check.forced(x, "angers hunger * 1;hungers 9");
        // hunger grows by 1 a day, whatever the law: 5 - 3 + 1 = 3 and 6
        check.due("by 1 a day", x.cubs(0, 1, -1), 1);
        Check.forced(x, "angers meat + 5");
        check.due("meat aside", x.cubs(0, 4, -1), 2);
    }

    private static void compared(Check check) {
        TamerState x = new TamerState();
        x.province(1, 1, 0);
        x.province(2, 2, 1);
        check.due("no tamer", x.compare(-1, 0), -1);
        x.tamer(3, 0);
        Check.law(x, "angers 3");
        Check.forced(x, "angers 4");
        check.due("by none", x.compare(-1, 0), 1);
        check.due("by 0", x.compare(0, 0), 2);
        check.due("by 1", x.compare(1, 0), 0);
        check.due("no law", x.compare(2, 0), -1);
        check.due("no law", x.compare(-2, 0), -1);
        check.due("no tamer", x.compare(0, 1), -1);
        check.due("the law in force stays", x.count(12), 1);
        check.due("no REFUSED one", x.count(8), 0);
    }

    private static void onPaper(Check check) {
        TamerState x = new TamerState();
        x.province(2, 3, 0);
        x.province(2, 5, 1);
        x.tamer(6, 4);
        x.pass();
        x.show(0, 3, -1);
        x.least(0, 0);
        x.seats(0);
        x.governed(0);
        x.calmest(0);
        x.cubs(0, 3, 0);
        x.compare(-1, 0);
        row(check, "all is as it was", new int[] {x.of(0, 0), x.of(0, 1), x.of(1, 0), x.of(1, 1), x.at(0, 1), x.at(0, 2),
            x.asks(0, 0, 0), x.count(5), x.count(13), x.status()}, 3, 3, 3, 5, 9, 2, 0, 1, 1, 0);
    }
}
