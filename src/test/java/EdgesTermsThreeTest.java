/** "Terms" III, the acts and days: each bound just ahead of it, at it and beyond it. */
public final class EdgesTermsThreeTest {
    private static final String PART = "Terms III";

    public static void main(String[] args) {
        Check check = new Check("EdgesTermsThreeTest");
        mayCrack(check);
        jumps(check);
        jumpHunger(check);
        jumpTempers(check);
        balks(check);
        balkTempers(check);
        bites(check);
        biteHunger(check);
        mayFeed(check);
        fedHunger(check);
        fedMemory(check);
        moves(check);
        dayHunger(check);
        dayPay(check);
        askedAhead(check);
        nextDay(check);
        fullRing(check);
        check.close();
    }

    private static void mayCrack(Check check) {
        check.of(PART, "To CRACK (not BARRED, one ARM at least)");
        TamerState x = Ring.of("9 9 0", "0 0, 20 0");
        check.due("two arms", x.crack(0, 0), 0);
        check.due("one arm", x.crack(0, 0), 0);
        check.due("no arm", x.crack(0, 0), -3);
        check.due("the other has arms", x.crack(1, 0), 2);
        Check.forced(x, "bars if tamer=1");
        check.due("barred", x.crack(1, 0), -3);
        Check.forced(x, "bars if tamer=0");
        check.due("not barred", x.crack(1, 0), 2);
    }

    private static void jumps(Check check) {
        check.of(PART, "if it ANGERS the PROVINCE no more than NERVE, that JUMPS (2)");
        check.due("one less than nerve", Ring.of("3 3 0", "7 0").crack(0, 0), 2);
        check.due("as nerve", Ring.of("3 3 0", "6 0").crack(0, 0), 2);
        check.due("one more", Ring.of("3 3 0", "5 0").crack(0, 0), 1);
        check.due("0 and 0", Ring.of("0 0 0", "0 0").crack(0, 0), 2);
        check.due("would do as nerve", Ring.of("3 3 0", "6 0").asks(0, 0, 4), 2);
        check.due("would do one more", Ring.of("3 3 0", "5 0").asks(0, 0, 4), 1);
    }

    private static void jumpHunger(Check check) {
        check.of(PART, "its HUNGER is one more (9 at most)");
        int[] from = {0, 7, 8, 9};
        int[] to = {1, 8, 9, 9};
        for (int n = 0; n < from.length; n++) {
            TamerState x = Ring.of(from[n] + " 4 0, 3 4 1", "20 0");
            x.crack(0, 0);
            check.row("hunger from " + from[n], Ring.hungers(x), to[n], 3);
            check.due("its own temper", x.of(0, 1), 4);
        }
    }

    private static void jumpTempers(Check check) {
        check.of(PART, "TEMPER of those on both TUBS beside it one less (0 at least)");
        TamerState x = Ring.of("0 5 3, 0 2 2, 0 1 4, 0 5 1, 0 5 5, 0 5 7", "20 0");
        x.crack(0, 0);
        check.row("tempers", Ring.tempers(x), 5, 1, 0, 5, 5, 5);
        x.crack(0, 0);
        check.row("tempers", Ring.tempers(x), 5, 0, 0, 5, 5, 5);
        x.crack(0, 0);
        check.row("tempers", Ring.tempers(x), 5, 0, 0, 5, 5, 5);
        TamerState y = Ring.of("0 5 0, 0 5 4", "20 0");
        check.due("none beside it", y.crack(0, 0), 2);
        check.row("tempers", Ring.tempers(y), 5, 5);
    }

    private static void balks(Check check) {
        check.of(PART, "if by 3 more than NERVE at most, it BALKS (1)");
        check.due("by 1 more", Ring.of("3 3 0", "5 0").crack(0, 0), 1);
        check.due("by 3 more", Ring.of("3 3 0", "3 0").crack(0, 0), 1);
        check.due("by 4 more", Ring.of("3 3 0", "2 0").crack(0, 0), 0);
        check.due("would do by 3 more", Ring.of("3 3 0", "3 0").asks(0, 0, 4), 1);
        check.due("would do by 4 more", Ring.of("3 3 0", "2 0").asks(0, 0, 4), 0);
    }

    private static void balkTempers(Check check) {
        check.of(PART, "its TEMPER and that of those beside it are one more (9 at most)");
        TamerState x = Ring.of("0 7 0, 0 8 7, 0 9 1, 0 5 2, 0 5 6", "6 0");
        check.due("it balks", x.crack(0, 0), 1);
        check.row("tempers", Ring.tempers(x), 8, 9, 9, 5, 5);
        check.row("hunger", Ring.hungers(x), 0, 0, 0, 0, 0);
        check.due("arms", x.at(0, 2), 2);
        check.due("it balks", x.crack(0, 0), 1);
        check.row("tempers", Ring.tempers(x), 9, 9, 9, 5, 5);
        check.due("it balks", x.crack(0, 0), 1);
        check.row("tempers", Ring.tempers(x), 9, 9, 9, 5, 5);
        TamerState y = Ring.of("0 1 3, 0 0 2, 0 5 4, 0 5 5", "0 0");
        check.due("it balks", y.crack(0, 0), 1);
        check.row("one more", Ring.tempers(y), 2, 1, 6, 5);
    }

    private static void bites(Check check) {
        check.of(PART, "else it BITES (0): ARMS are one less");
        TamerState x = Ring.of("0 4 0, 0 4 1", "0 0");
        check.due("by 4 more than nerve", x.crack(0, 0), 0);
        check.due("arms", x.at(0, 2), 1);
        check.row("tempers as they were", Ring.tempers(x), 4, 4);
        check.due("again", x.crack(0, 0), 0);
        check.due("arms", x.at(0, 2), 0);
        check.due("arms of all", x.count(2), 0);
        TamerState y = Ring.of("9 9 0", "0 0");
        Check.forced(y, "angers 30");
        check.due("by 30", y.crack(0, 0), 0);
    }

    private static void biteHunger(Check check) {
        check.of(PART, "its HUNGER two less (0 at least)");
        int[] from = {9, 3, 2, 1, 0};
        int[] to = {7, 1, 0, 0, 0};
        for (int n = 0; n < from.length; n++) {
            TamerState x = Ring.of(from[n] + " 9 0, 5 5 1", "0 0");
            x.crack(0, 0);
            check.row("hunger from " + from[n], Ring.hungers(x), to[n], 5);
        }
    }

    private static void mayFeed(Check check) {
        check.of(PART, "To FEED (MEAT 1 or more): MEAT one less");
        TamerState x = Ring.of("9 0 0", "0 2, 0 0");
        check.due("of 2", x.meat(0, 0), 6);
        check.due("meat", x.at(0, 1), 1);
        check.due("of 1", x.meat(0, 0), 3);
        check.due("meat", x.at(0, 1), 0);
        check.due("of 0", x.meat(0, 0), -3);
        check.due("meat", x.at(0, 1), 0);
        check.due("of 0 at first", x.meat(1, 0), -3);
        check.due("hunger", x.of(0, 0), 3);
        check.due("of 99", Ring.of("9 0 0", "0 99").meat(0, 0), 6);
    }

    private static void fedHunger(Check check) {
        check.of(PART, "HUNGER three less (0 at least)");
        int[] from = {9, 4, 3, 2, 1, 0};
        int[] to = {6, 1, 0, 0, 0, 0};
        for (int n = 0; n < from.length; n++) {
            TamerState x = Ring.of(from[n] + " 9 0, 5 5 1", "0 1");
            check.due("meat at hunger " + from[n], x.meat(0, 0), to[n]);
            check.row("hunger from " + from[n], Ring.hungers(x), to[n], 5);
        }
    }

    private static void fedMemory(Check check) {
        check.of(PART, "MEMORY of that TAMER one more (9 at most)");
        TamerState x = Ring.of("9 9 0, 9 9 1", "0 50, 0 50");
        for (int n = 1; n <= 11; n++) {
            x.meat(0, 1);
            check.due("behind " + n, x.asks(0, 1, 0), Math.min(n, 9));
        }
        check.due("of the other tamer", x.asks(1, 1, 0), 0);
        check.due("of the other province", x.asks(0, 0, 0), 0);
    }

    private static void moves(Check check) {
        check.of(PART, "To MOVE to a TUB that is free.");
        TamerState x = Ring.of("0 0 0, 0 0 1", "");
        check.due("to its own", x.move(0, 0), -3);
        check.due("to another's", x.move(0, 1), -3);
        check.due("to a free one", x.move(0, 2), 0);
        check.due("to the one that became free", x.move(1, 0), 1);
        check.due("to the other that became free", x.move(0, 1), 2);
        check.row("tubs", Ring.tubs(x), 1, 0);
    }

    private static void dayHunger(Check check) {
        check.of(PART, "A DAY: each HUNGERS (9 at most)");
        TamerState x = Ring.of("0 0 0, 7 0 1, 8 0 2, 9 0 3", "");
        x.pass();
        check.row("by 1", Ring.hungers(x), 1, 8, 9, 9);
        Check.forced(x, "hungers 9");
        x.pass();
        check.row("by 9", Ring.hungers(x), 9, 9, 9, 9);
        TamerState y = Ring.of("0 0 0, 1 0 1", "");
        Check.forced(y, "hungers 8");
        y.pass();
        check.row("by 8", Ring.hungers(y), 8, 9);
    }

    private static void dayPay(Check check) {
        check.of(PART, "each TAMER is PAID (99 at most)");
        TamerState x = Ring.of("", "0 0, 0 93, 0 94, 0 95");
        x.pass();
        check.row("by 5", new int[] {x.at(0, 1), x.at(1, 1), x.at(2, 1), x.at(3, 1)}, 5, 98, 99, 99);
        Check.forced(x, "pays 94");
        x.pass();
        check.row("by 94", new int[] {x.at(0, 1), x.at(1, 1), x.at(2, 1), x.at(3, 1)}, 99, 99, 99, 99);
    }

    private static void askedAhead(Check check) {
        check.of(PART, "all asked as it was ahead");
        TamerState x = Ring.of("2 0 0, 3 0 1", "0 10, 0 20");
        Check.forced(x, "hungers hunger+day;pays meat+day");
        x.pass();
        check.row("hunger", Ring.hungers(x), 4, 6);
        check.row("meat", new int[] {x.at(0, 1), x.at(1, 1)}, 20, 40);
        x.pass();
        check.row("hunger", Ring.hungers(x), 9, 9);
        check.row("meat", new int[] {x.at(0, 1), x.at(1, 1)}, 41, 81);
    }

    private static void nextDay(Check check) {
        check.of(PART, "it is the next DAY (at 999 it can't be)");
        TamerState x = Ring.of("0 0 0", "0 0");
        check.due("day 0", x.pass(), 1);
        x.terms(0, 997);
        check.due("day 997", x.pass(), 998);
        check.due("day 998", x.pass(), 999);
        String ahead = Ring.all(x);
        check.due("day 999", x.pass(), -3);
        check.same("all as it was", Ring.all(x), ahead);
        check.due("in an empty ring", new TamerState().pass(), 1);
    }

    private static void fullRing(Check check) {
        check.of(PART, "TEMPER of those on both TUBS beside it one less");
        TamerState x = Ring.of("0 0 5, 0 2 1, 0 0 2, 0 4 3, 0 4 4, 6 3 7", "1 3, 2 4, 3 5, 4 6");
        x.terms(2, 4);
        check.due("in a full ring", x.crack(0, 2), 2);
        check.row("tubs", Ring.tubs(x), 5, 1, 2, 3, 4, 7);
        check.row("tempers", Ring.tempers(x), 0, 1, 0, 3, 4, 3);
        check.row("hunger", Ring.hungers(x), 0, 0, 1, 0, 0, 6);
        x.pass();
        check.row("hunger behind a day", Ring.hungers(x), 1, 1, 2, 1, 1, 7);
        check.row("tempers behind a day", Ring.tempers(x), 0, 1, 0, 3, 4, 3);
        check.row("terms behind a day", new int[] {x.count(13), x.count(14), x.count(15)}, 1, 1, 4);
        for (int t = 0; t < 4; t++) {
            check.row("tamer " + t, new int[] {x.at(t, 0), x.at(t, 1), x.at(t, 2)}, 1 + t, 8 + t, 2);
        }
    }
}
