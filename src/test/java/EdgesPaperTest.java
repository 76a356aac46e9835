/** "Terms" III, what is told on paper: the empty, full and impossible cases, and ties. */
public final class EdgesPaperTest {
    private static final String PART = "Terms III";
    private static final long WHOLE = 1000000000000L;

    public static void main(String[] args) {
        Check check = new Check("EdgesPaperTest");
        paper(check);
        showArms(check);
        showBarred(check);
        showBites(check);
        showFewest(check);
        loyal(check);
        meatAtMost(check);
        meatAside(check);
        seats(check);
        seatsFewest(check);
        one(check);
        oneOrder(check);
        tempers(check);
        temperRange(check);
        ask(check);
        governed(check);
        governedAtMost(check);
        governedNone(check);
        calmest(check);
        cubs(check);
        cubsHunger(check);
        cubsMeat(check);
        cubsRow(check);
        safe(check);
        safeCut(check);
        compared(check);
        check.close();
    }

    private static TamerState forced(TamerState x, String law) {
        Check.forced(x, law);
        return x;
    }

    private static int[] show(TamerState x, int told) {
        int many = Integer.bitCount(told);
        int[] row = new int[many + 2];
        for (int i = -1; i <= many; i++) {
            row[i + 1] = x.show(0, told, i);
        }
        return row;
    }

    private static int[] seated(TamerState x) {
        int[] row = new int[x.count(0) + 1];
        for (int what = 0; what < row.length; what++) {
            row[what] = x.seats(what);
        }
        return row;
    }

    private static int[] governed(TamerState x) {
        int[] row = new int[x.count(0) + 1];
        for (int what = 0; what < row.length; what++) {
            row[what] = x.governed(what);
        }
        return row;
    }

    private static int[] cubs(TamerState x, int n) {
        int[] row = new int[n + 1];
        for (int i = -1; i < n; i++) {
            row[i + 1] = x.cubs(0, n, i);
        }
        return row;
    }

    private static void paper(Check check) {
        check.of(PART, "(On paper, ARMS aside:)");
        TamerState x = Ring.of("9 9 0, 4 4 1", "0 3, 8 0");
        x.crack(0, 0);
        x.feud(0, 1, 1);
        x.done(1, 0, 0, 1);
        String ahead = Ring.all(x);
        x.show(1, 2, -1);
        x.least(0, 0);
        x.seats(0);
        x.one(-1);
        x.tempers(0);
        x.ask(1, 0);
        x.governed(0);
        x.calmest(0);
        x.cubs(0, 4, -1);
        x.safe(20, 99);
        x.compare(-1, 0);
        check.same("all as it was", Ring.all(x), ahead);
    }

    private static void showArms(Check check) {
        check.of(PART, "ARMS aside:) a SHOW of a TAMER");
        TamerState x = Ring.of("4 9 0, 0 0 3", "0 0");
        x.crack(0, 0);
        x.crack(0, 0);
        check.due("no arms", x.at(0, 2), 0);
        check.due("a crack", x.crack(0, 1), -3);
        check.row("a show", show(x, 2), 0, 1, -1);
    }

    private static void showBarred(Check check) {
        check.of(PART, "each cracked at once, one after the other, none BARRED as its turn comes");
        TamerState x = forced(Ring.of("0 4 0, 0 5 1", "20 0"), "bars if temper=5");
        check.row("barred now, not behind the other", show(x, 3), 0, 0, 1, -1);
        check.row("barred alone", show(x, 2), -1, -1, -1);
        check.row("the other alone", show(x, 1), 0, 0, -1);
        TamerState y = forced(Ring.of("0 4 0, 0 6 1", "20 0"), "bars if temper=5");
        check.row("not barred now, barred behind the other", show(y, 3), 0, 1, 0, -1);
        TamerState z = forced(Ring.of("0 4 0, 0 6 1", "20 0"), "bars if temper>4");
        check.row("barred at both turns", show(z, 3), -1, -1, -1, -1);
    }

    private static void showBites(Check check) {
        check.of(PART, "none BITES");
        check.row("by 3 more than nerve", show(Ring.of("0 3 0", "0 0"), 1), 1, 0, -1);
        check.row("by 4 more", show(Ring.of("0 4 0", "0 0"), 1), -1, -1, -1);
        check.row("by 4 more until the other jumped", show(Ring.of("0 0 0, 0 4 1", "0 0"), 3), 1, 0, 1, -1);
        check.row("by 5 more", show(Ring.of("0 0 0, 0 5 1", "0 0"), 3), -1, -1, -1, -1);
        check.row("not beside it", show(Ring.of("0 0 0, 0 4 2", "0 0"), 3), -1, -1, -1, -1);
        check.row("beside it by 7 and 0", show(Ring.of("0 0 7, 0 4 0", "0 0"), 3), 1, 0, 1, -1);
    }

    private static void showFewest(Check check) {
        check.of(PART, "the fewest BALKS; the first as a row");
        check.row("of none", show(Ring.of("9 9 0", "0 0"), 0), 0, -1);
        check.row("the lower first", show(Ring.of("0 0 0, 0 1 1", "0 0"), 3), 0, 0, 1, -1);
        check.row("the higher first", show(Ring.of("0 1 0, 0 0 1", "0 0"), 3), 0, 1, 0, -1);
        check.row("all orders alike", show(Ring.of("0 0 0, 0 0 3, 0 0 6", "0 0"), 7), 0, 0, 1, 2, -1);
        check.row("temper 9 and 0", show(Ring.of("0 9 0, 0 0 4", "9 0"), 3), 0, 0, 1, -1);
        check.row("both balk whatever the order", show(Ring.of("0 1 0, 0 1 4", "0 0"), 3), 2, 0, 1, -1);
        TamerState six = forced(Ring.of("0 0 0, 0 0 1, 0 0 2, 0 0 3, 0 0 4, 0 0 5", "0 0"), "angers 3");
        check.row("all six balk", show(six, 63), 6, 0, 1, 2, 3, 4, 5, -1);
    }

    private static void loyal(Check check) {
        check.of(PART, "LOYAL is a PROVINCE to a TAMER who ANGERS it no more than NERVE.");
        check.due("less", Ring.of("3 3 0", "7 0").asks(0, 0, 3), 1);
        check.due("as nerve", Ring.of("3 3 0", "6 0").asks(0, 0, 3), 1);
        check.due("one more", Ring.of("3 3 0", "5 0").asks(0, 0, 3), 0);
        check.due("0 and 0", Ring.of("0 0 0", "0 0").asks(0, 0, 3), 1);
        check.due("30 by 20", forced(Ring.of("0 0 0", "20 0"), "angers 30").asks(0, 0, 3), 0);
        check.due("barred and loyal", forced(Ring.of("0 0 0", "0 0"), "bars").asks(0, 0, 3), 1);
    }

    private static void meatAtMost(Check check) {
        check.of(PART, "the fewest FEEDINGS by this one (9 at most");
        check.due("none is needed", Ring.of("3 3 0", "6 0").least(0, 1), 0);
        check.due("one", Ring.of("3 3 0", "5 0").least(0, 1), 1);
        check.due("8", forced(Ring.of("0 0 0", "0 0"), "angers 8-memory").least(0, 1), 8);
        check.due("9", forced(Ring.of("0 0 0", "0 0"), "angers 9-memory").least(0, 1), 9);
        check.due("9 are not enough", forced(Ring.of("0 0 0", "0 0"), "angers 10-memory").least(0, 1), -1);
        check.due("9 without a law", Ring.of("9 9 0", "0 0").least(0, 1), 9);
        check.due("no province", Ring.of("", "0 0").least(0, 0), 0);
    }

    private static void meatAside(Check check) {
        check.of(PART, "MEAT aside; no one else) behind which it is LOYAL: together");
        TamerState x = Ring.of("9 9 0, 9 9 1", "0 0, 0 99");
        check.due("9 by who has no meat", x.least(0, 1), 9);
        check.due("together", x.least(0, 0), 18);
        Ring.meat(x, 9, 1, 0);
        check.due("another's meat is hunger alone", x.least(0, 1), 9);
        check.due("his own", x.least(1, 1), 0);
        check.due("together", x.least(1, 0), 9);
        forced(x, "angers 1 if province=1");
        check.due("not by 9", x.least(1, 2), -1);
        check.due("not together", x.least(1, 0), -1);
        check.due("the other", x.least(1, 1), 0);
    }

    private static TamerState allInFeud(String provinces) {
        TamerState x = Ring.of(provinces, "");
        for (int p = 0; p < x.count(0); p++) {
            for (int q = 0; q < p; q++) {
                x.feud(p, q, 1);
            }
        }
        return x;
    }

    private static void seats(Check check) {
        check.of(PART, "SEATS: TUBS for all PROVINCES, unlike ones, on which no two in a FEUD sit side by side");
        check.row("no provinces", seated(new TamerState()), 0);
        check.row("one", seated(Ring.of("0 0 7", "")), 0, 7);
        check.row("four in feud", seated(allInFeud("0 0 0, 0 0 1, 0 0 2, 0 0 3")), 2, 0, 4, 2, 6);
        check.row("five can't", seated(allInFeud("0 0 0, 0 0 1, 0 0 2, 0 0 3, 0 0 4")), -1, -1, -1, -1, -1, -1);
        TamerState six = Ring.of("0 0 0, 0 0 1, 0 0 2, 0 0 3, 0 0 4, 0 0 5", "");
        check.row("six as they are", seated(six), 0, 0, 1, 2, 3, 4, 5);
        six.feud(0, 1, 1);
        check.row("unlike ones", seated(six), 1, 0, 6, 2, 3, 4, 5);
        TamerState beside = Ring.of("0 0 0, 0 0 2", "");
        beside.feud(0, 1, 1);
        check.row("a tub between them", seated(beside), 0, 0, 2);
        TamerState friends = Ring.of("0 0 0, 0 0 1, 0 0 4", "");
        friends.feud(0, 2, 1);
        check.row("side by side without a feud", seated(friends), 0, 0, 1, 4);
    }

    private static void seatsFewest(Check check) {
        check.of(PART, "the fewest that MOVE from where they are; the first as a row");
        TamerState x = Ring.of("0 0 0, 0 0 1", "");
        x.feud(0, 1, 1);
        check.row("the higher moves", seated(x), 1, 0, 2);
        TamerState y = Ring.of("0 0 7, 0 0 0", "");
        y.feud(0, 1, 1);
        check.row("7 is beside 0: the lower moves", seated(y), 1, 2, 0);
        TamerState z = Ring.of("0 0 6, 0 0 7, 0 0 0", "");
        z.feud(0, 1, 1);
        z.feud(1, 2, 1);
        check.row("one, though two could", seated(z), 1, 6, 2, 0);
    }

    private static void one(Check check) {
        check.of(PART, "as often as both DID something on a DAY when the same TAMER cracked, DID alike (once at least)");
        TamerState x = Ring.of("0 0 0, 0 0 1", "0 0, 0 0");
        check.due("never", x.one(-1), 0);
        x.done(1, 0, 0, 2);
        check.due("one alone", x.one(-1), 0);
        x.done(2, 0, 1, 2);
        check.due("on another day", x.one(-1), 0);
        x.done(1, 1, 1, 2);
        check.due("by another tamer", x.one(-1), 0);
        x.done(1, 0, 1, 2);
        check.due("once", x.one(-1), 1);
        x.done(2, 0, 0, 2);
        check.due("twice", x.one(-1), 1);
        x.done(1, 1, 0, 1);
        check.due("once unlike", x.one(-1), 0);
    }

    private static void oneOrder(Check check) {
        check.of(PART, "by the lower, then the higher one");
        TamerState x = Ring.of("0 0 0, 0 0 1, 0 0 2, 0 0 3, 0 0 4, 0 0 5", "0 0");
        for (int p = 5; p >= 0; p--) {
            x.done(0, 0, p, 1);
        }
        check.due("all twos", x.one(-1), 15);
        int[] twos = {1, 2, 3, 4, 5, 12, 13, 14, 15, 23, 24, 25, 34, 35, 45};
        for (int i = 0; i < twos.length; i++) {
            check.due("one(" + i + ")", x.one(i), twos[i]);
        }
        check.due("one(15)", x.one(15), -1);
    }

    private static void tempers(Check check) {
        check.of(PART, "those 0 .. 9 by which it would have DONE all that is told of it (DAY aside, all else as now)");
        TamerState x = forced(Ring.of("0 5 0, 0 5 1", "0 0"), "angers temper+day");
        check.due("nothing is told", x.tempers(0), 1023);
        x.done(99, 0, 0, 2);
        check.due("a jump, on the day that is now", x.tempers(0), 1);
        x.terms(0, 1);
        check.due("a jump, by no temper", x.tempers(0), 0);
        x.terms(0, 0);
        x.forget();
        x.done(99, 0, 0, 1);
        check.due("a balk", x.tempers(0), 2 + 4 + 8);
        check.due("of the other nothing is told", x.tempers(1), 1023);
        x.done(98, 0, 0, 0);
        check.due("a bite too", x.tempers(0), 0);
    }

    private static void temperRange(Check check) {
        check.of(PART, "TEMPERS of a PROVINCE: those 0 .. 9");
        TamerState x = Ring.of("0 5 0", "9 0, 8 0, 6 0, 5 0");
        x.done(0, 0, 0, 2);
        check.due("nerve 9: all jump", x.tempers(0), 1023);
        x.done(0, 1, 0, 1);
        check.due("nerve 8: 9 alone balks", x.tempers(0), 512);
        x.forget();
        x.done(0, 2, 0, 0);
        check.due("nerve 6: none bites", x.tempers(0), 0);
        x.forget();
        x.done(0, 3, 0, 0);
        check.due("nerve 5: 9 alone bites", x.tempers(0), 512);
        TamerState y = Ring.of("0 5 0", "0 0");
        y.done(0, 0, 0, 2);
        check.due("nerve 0: 0 alone jumps", y.tempers(0), 1);
    }

    private static void ask(Check check) {
        check.of(PART, "To ASK: the TAMER by whose crack the most of these TEMPERS would do alike are as few as can be; "
            + "the lowest.");
        TamerState x = Ring.of("0 0 0", "20 0, 3 0, 3 0");
        check.row("4, 3, 3 by nerve 3", new int[] {x.ask(0, 0), x.ask(0, 1)}, 1, 4);
        x.done(0, 1, 0, 2);
        check.row("0 .. 3 alike by all: the lowest", new int[] {x.ask(0, 0), x.ask(0, 1)}, 0, 4);
        TamerState y = Ring.of("0 0 0", "9 0");
        check.row("all ten alike", new int[] {y.ask(0, 0), y.ask(0, 1)}, 0, 10);
        TamerState z = Ring.of("0 0 0", "9 0, 0 0");
        z.done(0, 1, 0, 2);
        check.row("one temper", new int[] {z.ask(0, 0), z.ask(0, 1)}, 0, 1);
    }

    private static void governed(Check check) {
        check.of(PART, "PROVINCES by TAMERS to whom they are LOYAL, who are not BARRED");
        check.row("as nerve", governed(Ring.of("3 3 0", "6 0")), 1, 0);
        check.row("one more", governed(Ring.of("3 3 0", "5 0")), 0, 100);
        check.row("barred", governed(forced(Ring.of("3 3 0", "6 0"), "bars")), 0, 100);
        check.row("by who is not", governed(forced(Ring.of("3 3 0", "6 0, 6 0"), "bars if tamer=0")), 1, 1);
        check.row("arms aside", governed(bittenTwice()), 1, 0, 100);
        TamerState x = Ring.of("3 3 0, 3 3 1", "6 0");
        check.row("both", governed(x), 2, 0, 0);
        check.row("both asked again by a law", governed(forced(x, "angers 7 if province=0")), 1, 100, 0);
        check.row("none", governed(forced(x, "bars")), 0, 100, 100);
    }

    /** Tamer 0 has no arms; province 0 is loyal to it. */
    private static TamerState bittenTwice() {
        TamerState x = Ring.of("0 0 0, 4 9 3", "0 0");
        x.crack(0, 1);
        x.crack(0, 1);
        return x;
    }

    private static void governedAtMost(Check check) {
        check.of(PART, "each two PROVINCES at most: the most; the first as a row");
        check.row("two by one", governed(Ring.of("0 0 0, 0 0 1", "0 0")), 2, 0, 0);
        check.row("three by one", governed(Ring.of("0 0 0, 0 0 1, 0 0 2", "0 0")), 2, 0, 0, 100);
        check.row("three by two", governed(Ring.of("0 0 0, 0 0 1, 0 0 2", "0 0, 0 0")), 3, 0, 0, 1);
        String six = "0 0 0, 0 0 1, 0 0 2, 0 0 3, 0 0 4, 0 0 5";
        check.row("six by two", governed(Ring.of(six, "0 0, 0 0")), 4, 0, 0, 1, 1, 100, 100);
        check.row("six by three", governed(Ring.of(six, "0 0, 0 0, 0 0")), 6, 0, 0, 1, 1, 2, 2);
        check.row("six by four", governed(Ring.of(six, "0 0, 0 0, 0 0, 0 0")), 6, 0, 0, 1, 1, 2, 2);
        check.row("the most ahead of the first", governed(Ring.of("0 0 0, 0 0 1, 1 0 2, 1 0 3", "1 0, 0 0")),
            4, 1, 1, 0, 0);
    }

    private static void governedNone(Check check) {
        check.of(PART, "the first as a row of TAMERS by PROVINCES (100: none, behind all)");
        check.row("no provinces", governed(new TamerState()), 0);
        check.row("no tamers", governed(Ring.of("0 0 0, 0 0 1", "")), 0, 100, 100);
        check.row("none behind all", governed(Ring.of("1 0 0, 0 0 1, 0 0 2, 0 0 3", "0 0")), 2, 100, 0, 0, 100);
    }

    private static void calmest(Check check) {
        check.of(PART, "CALMEST of all TAMERS for a PROVINCE: who ANGERS it least; the lowest.");
        TamerState x = Ring.of("9 9 0", "0 9, 20 9, 0 9, 0 9");
        check.due("all alike", x.calmest(0), 0);
        x.meat(3, 0);
        check.due("who fed it", x.calmest(0), 3);
        x.meat(2, 0);
        check.due("the lower of two", x.calmest(0), 2);
        x.meat(3, 0);
        check.due("by one less", x.calmest(0), 3);
        check.due("barred aside", forced(Ring.of("0 0 0", "0 0"), "bars").calmest(0), 0);
        check.due("no tamers", Ring.of("9 9 0", "").calmest(0), -1);
    }

    private static void cubs(Check check) {
        check.of(PART, "CUBS: from now on n DAYS in each of which a TAMER FEEDS one PROVINCE or none");
        TamerState x = Ring.of("5 0 0, 5 0 1", "4 0");
        check.row("no day: as now", cubs(x, 0), 0);
        check.row("one day, one province", cubs(x, 1), 1, 0);
        check.row("two days, both", cubs(x, 2), 2, 0, 1);
        check.row("none is better", cubs(forced(Ring.of("5 0 0", "0 0"), "angers memory"), 2), 1, 100, 100);
        check.row("no provinces", cubs(Ring.of("", "0 0"), 4), 0, 100, 100, 100, 100);
        check.row("both asked again by a law", cubs(forced(x, "angers 5 if province=0"), 2), 1, 0, 1);
        check.row("none is loyal", cubs(forced(x, "angers 5"), 2), 0, 0, 0);
    }

    private static void cubsHunger(Check check) {
        check.of(PART, "HUNGER growing by 1 a DAY, 9 at most");
        String law = "angers 1;angers 0 if hunger=6 and memory=0";
        check.row("5 and 1", cubs(forced(Ring.of("5 0 0", "0 0"), law), 1), 1, 100);
        check.row("2 and 4", cubs(forced(Ring.of("2 0 0", "0 0"), law), 4), 1, 100, 100, 100, 100);
        check.row("whatever the law", cubs(forced(Ring.of("5 0 0", "0 0"), law + ";hungers 9"), 1), 1, 100);
        // fed on the first day 7, 8, 9 and no 10; fed once more it is 7
        check.row("9 at most", cubs(forced(Ring.of("9 0 0", "0 0"), "angers 1;angers 0 if hunger=9"), 4), 1,
            0, 100, 100, 100);
        check.row("8 and 4", cubs(forced(Ring.of("8 0 0", "9 0"), "angers hunger+memory"), 4), 1, 0, 0, 0, 0);
        check.row("9 without food", cubs(Ring.of("9 0 0, 9 0 1, 9 0 2, 9 0 3, 9 0 4, 9 0 5", "9 0"), 4), 6, 0, 0, 0, 0);
    }

    private static void cubsMeat(Check check) {
        check.of(PART, "(MEAT aside");
        check.row("who has no meat", cubs(Ring.of("9 9 0", "0 0"), 1), 0, 0);
        check.row("who has none feeds four times", cubs(forced(Ring.of("0 0 0", "0 0"), "angers 4-memory"), 4),
            1, 0, 0, 0, 0);
        check.row("five times can't be", cubs(forced(Ring.of("0 0 0", "0 0"), "angers 5-memory"), 4), 0, 0, 0, 0, 0);
    }

    private static void cubsRow(Check check) {
        check.of(PART, "the first DAYS' choices as a row (100: none, behind all)");
        String law = "angers 1;angers 0 if province=1 and memory=1";
        check.row("the first row", cubs(forced(Ring.of("0 0 0, 0 0 1", "0 0"), law), 3), 1, 0, 0, 1);
        check.row("none behind all", cubs(forced(Ring.of("0 0 0", "0 0"), "angers 1;angers 0 if memory=1"), 3), 1,
            0, 100, 100);
    }

    private static void safe(Check check) {
        check.of(PART, "that it thunders fewer than k times in n DAYS, in THUNDER of ten each DAY");
        TamerState x = new TamerState();
        x.terms(1, 10);
        check.due("always: fewer than 4 in 3", x.safe(4, 3), WHOLE);
        check.due("always: fewer than 3 in 3", x.safe(3, 3), 0);
        check.due("always: fewer than 20 in 19", x.safe(20, 19), WHOLE);
        check.due("always: fewer than 20 in 20", x.safe(20, 20), 0);
        check.due("in no day", x.safe(1, 0), WHOLE);
        x.terms(1, 0);
        check.due("never", x.safe(1, 99), WHOLE);
        x.terms(1, 1);
        check.due("one of ten", x.safe(1, 1), WHOLE / 10 * 9);
        x.terms(1, 9);
        check.due("nine of ten", x.safe(1, 1), WHOLE / 10);
        check.due("nine of ten, fewer than 2 in 2", x.safe(2, 2), WHOLE / 100 * 19);
    }

    private static void safeCut(Check check) {
        check.of(PART, "each part is cut");
        TamerState x = new TamerState();
        // 9 of 10 is whole twelve times: 282,429,536,481; then 254,186,582,832.9
        check.due("12 days", x.safe(1, 12), 282429536481L);
        check.due("13 days", x.safe(1, 13), 254186582832L);
        // of twice in 13 days one part is cut by .4, the other by .8: each by itself, not both together
        check.due("13 days, fewer than 3", x.safe(3, 13), 866117245206L);
        check.due("15 days, fewer than 2", x.safe(2, 15), 549043018915L);
        check.due("99 days, fewer than 20", x.safe(20, 99), 998255635351L);
        x.terms(1, 9);
        check.due("1 of 10 twelve times", x.safe(1, 12), 1);
        check.due("and a thirteenth", x.safe(1, 13), 0);
        x.terms(1, 5);
        // 2 to the 12th is cut out of 10 to the 12th; 244,140,625 is odd, so both of its halves are cut
        check.due("halves, 12 days, one", x.safe(1, 12), 244140625L);
        check.due("halves, 12 days, two", x.safe(2, 12), 13 * 244140625L);
        check.due("halves, 13 days, one", x.safe(1, 13), 122070312L);
        check.due("halves, 13 days, two", x.safe(2, 13), 122070312L + 122070312L + 12 * 244140625L / 2);
    }

    private static void compared(Check check) {
        check.of(PART, "COMPARED: how many PROVINCES are LOYAL to a TAMER by a LAW in place of that in FORCE (NONE: none).");
        TamerState x = Ring.of("3 3 0, 3 4 1", "6 0");
        check.due("by none", x.compare(-1, 0), 1);
        Check.law(x, "angers 6");
        Check.forced(x, "angers 7");
        check.due("as nerve", x.compare(0, 0), 2);
        check.due("one more", x.compare(1, 0), 0);
        check.due("by none in place of that in force", x.compare(-1, 0), 1);
        check.due("that in force stays", x.count(12), 1);
        check.due("no provinces", Ring.of("", "0 0").compare(-1, 0), 0);
    }
}
