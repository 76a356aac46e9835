/** Promises 23 to 35, what is told on paper: the first and last of each argument, and where it answers NONE. */
public final class EdgesPromises23To35Test {
    private static final int LEAST = Integer.MIN_VALUE;
    private static final int MOST = Integer.MAX_VALUE;

    public static void main(String[] args) {
        Check check = new Check("EdgesPromises23To35Test");
        show(check);
        showNotAll(check);
        least(check);
        seats(check);
        seatsNone(check);
        done(check);
        forget(check);
        one(check);
        tempers(check);
        ask(check);
        governed(check);
        calmest(check);
        cubs(check);
        cubsDays(check);
        safe(check);
        compare(check);
        noneIsRefused(check);
        check.close();
    }

    private static void show(Check check) {
        check.of("Promise 23", "A SHOW of PROVINCES, as bits: BALKS (i NONE), the i-th PROVINCE.");
        TamerState x = Ring.of("0 0 0, 0 0 3", "0 0");
        check.row("of both", new int[] {x.show(0, 3, -2), x.show(0, 3, -1), x.show(0, 3, 0), x.show(0, 3, 1), x.show(0, 3, 2)},
            -1, 0, 0, 1, -1);
        check.row("of the higher", new int[] {x.show(0, 2, -1), x.show(0, 2, 0), x.show(0, 2, 1)}, 0, 1, -1);
        check.row("of none", new int[] {x.show(0, 0, -1), x.show(0, 0, 0)}, 0, -1);
        check.row("wild", new int[] {x.show(0, 3, LEAST), x.show(0, 3, MOST)}, -1, -1);
        TamerState six = Ring.of("0 0 0, 0 0 1, 0 0 2, 0 0 3, 0 0 4, 0 0 5", "0 0, 0 0, 0 0, 0 0");
        check.row("of all six", new int[] {six.show(3, 63, -1), six.show(3, 63, 5), six.show(3, 63, 6)}, 0, 5, -1);
        check.due("of the last", six.show(3, 32, 0), 5);
    }

    private static void showNotAll(Check check) {
        check.of("Promise 23", "NONE (there are not all of them; it can't be).");
        TamerState x = Ring.of("0 0 0, 9 9 3", "0 0");
        check.due("the first alone", x.show(0, 1, -1), 0);
        check.due("a third", x.show(0, 4, -1), -1);
        check.due("a third beside the first", x.show(0, 5, 0), -1);
        check.due("the 32nd", x.show(0, LEAST, -1), -1);
        check.due("all bits", x.show(0, -1, -1), -1);
        check.due("it can't be", x.show(0, 2, -1), -1);
        check.due("it can't be", x.show(0, 3, 0), -1);
        check.due("no tamer 1", x.show(1, 1, -1), -1);
        check.due("no tamer -1", x.show(-1, 1, -1), -1);
        TamerState six = Ring.of("0 0 0, 0 0 1, 0 0 2, 0 0 3, 0 0 4, 0 0 5", "0 0");
        check.due("a seventh", six.show(0, 64, -1), -1);
        check.due("all six", six.show(0, 63, -1), 0);
    }

    private static void least(Check check) {
        check.of("Promise 24", "all together (what 0), for PROVINCE p (1 + p; NONE: not by 9). NONE (not all).");
        TamerState x = Ring.of("1 0 0, 2 0 1", "0 0, 20 0");
        // by 0: 1 is fed once; 2 is fed once
        check.row("by the first", new int[] {x.least(0, -1), x.least(0, 0), x.least(0, 1), x.least(0, 2), x.least(0, 3)},
            -1, 2, 1, 1, -1);
        check.row("by the last", new int[] {x.least(1, 0), x.least(1, 1), x.least(1, 2)}, 0, 0, 0);
        check.row("by none", new int[] {x.least(2, 0), x.least(-1, 0), x.least(0, LEAST), x.least(0, MOST)}, -1, -1, -1, -1);
        Check.forced(x, "angers 9-memory;angers 10-memory if province=1");
        check.row("9 and not by 9", new int[] {x.least(0, 1), x.least(0, 2), x.least(0, 0)}, 9, -1, -1);
        TamerState six = Ring.of("9 9 0, 9 9 1, 9 9 2, 9 9 3, 9 9 4, 9 9 5", "0 0");
        check.row("six by 9", new int[] {six.least(0, 0), six.least(0, 6), six.least(0, 7)}, 54, 9, -1);
        check.row("no provinces", new int[] {Ring.of("", "0 0").least(0, 0), Ring.of("", "0 0").least(0, 1)}, 0, -1);
    }

    private static void seats(Check check) {
        check.of("Promise 25", "SEATS: how many MOVE (what 0), the TUB of PROVINCE p (1 + p).");
        TamerState x = Ring.of("0 0 0, 0 0 1", "");
        x.feud(0, 1, 1);
        check.row("what", new int[] {x.seats(LEAST), x.seats(-1), x.seats(0), x.seats(1), x.seats(2), x.seats(3), x.seats(MOST)},
            -1, -1, 1, 0, 2, -1, -1);
        check.row("no provinces", new int[] {new TamerState().seats(0), new TamerState().seats(1)}, 0, -1);
        TamerState six = Ring.of("0 0 0, 0 0 1, 0 0 2, 0 0 3, 0 0 4, 0 0 7", "");
        check.row("the last of six", new int[] {six.seats(6), six.seats(7)}, 7, -1);
    }

    private static void seatsNone(Check check) {
        check.of("Promise 25", "NONE (there are none)");
        TamerState x = Ring.of("0 0 0, 0 0 2, 0 0 4, 0 0 6, 0 0 1", "");
        for (int p = 0; p < 4; p++) {
            for (int q = 0; q < p; q++) {
                x.feud(p, q, 1);
            }
        }
        check.due("four in feud, the fifth in none", x.seats(0), 0);
        for (int p = 0; p < 4; p++) {
            x.feud(4, p, 1);
        }
        check.row("five in feud", new int[] {x.seats(0), x.seats(1), x.seats(5)}, -1, -1, -1);
        x.feud(4, 0, 0);
        check.due("the fifth at peace with one: it has a foe on its other side", x.seats(0), -1);
        x.feud(4, 1, 0);
        check.due("at peace with two", x.seats(0), 0);
    }

    private static void done(Check check) {
        check.of("Promise 26", "A PROVINCE has DONE 0, 1, 2 on a DAY 0 .. 99 when a TAMER cracked: how often there was. "
            + "-1; -2; -5.");
        TamerState x = Ring.of("0 0 0, 0 0 1", "0 0, 0 0");
        check.row("days", new int[] {x.done(-1, 0, 0, 0), x.done(100, 0, 0, 0), x.done(0, 0, 0, 0), x.done(99, 0, 0, 0)},
            -1, -1, 1, 2);
        check.row("tamers", new int[] {x.done(0, -1, 0, 0), x.done(0, 2, 0, 0), x.done(0, 1, 0, 0)}, -2, -2, 3);
        check.row("provinces", new int[] {x.done(0, 0, -1, 0), x.done(0, 0, 2, 0), x.done(0, 0, 1, 0)}, -2, -2, 4);
        check.row("deeds", new int[] {x.done(0, 0, 0, -1), x.done(0, 0, 0, 3), x.done(0, 0, 0, 1), x.done(0, 0, 0, 2)},
            -1, -1, 5, 6);
        check.row("room", new int[] {x.done(0, 0, 0, 0), x.done(0, 0, 0, 0), x.done(0, 0, 0, 0), x.done(0, 0, 0, 0),
            x.done(0, 0, 0, 0)}, 7, 8, 9, 10, -5);
        check.due("how many", x.count(3), 10);
    }

    private static void forget(Check check) {
        check.of("Promise 27", "DONE is nothing then: how often there was.");
        TamerState x = Ring.of("0 0 0", "0 0");
        check.due("nothing", x.forget(), 0);
        x.done(0, 0, 0, 1);
        check.due("once", x.forget(), 1);
        check.row("nothing then", new int[] {x.forget(), x.count(3), x.tempers(0)}, 0, 0, 1023);
        for (int n = 0; n < 10; n++) {
            x.done(0, 0, 0, 1);
        }
        check.due("ten times", x.forget(), 10);
        check.due("there is room again", x.done(0, 0, 0, 1), 1);
    }

    private static void one(Check check) {
        check.of("Promise 28", "ONE: how many twos (i NONE), the i-th as ten times the lower and the higher one. NONE.");
        TamerState x = Ring.of("0 0 0, 0 0 1, 0 0 2, 0 0 3, 0 0 4, 0 0 5", "0 0");
        check.row("none", new int[] {x.one(-2), x.one(-1), x.one(0)}, -1, 0, -1);
        x.done(0, 0, 5, 1);
        x.done(0, 0, 4, 1);
        check.row("one", new int[] {x.one(-2), x.one(-1), x.one(0), x.one(1)}, -1, 1, 45, -1);
        x.done(1, 0, 0, 1);
        x.done(1, 0, 1, 1);
        check.row("two", new int[] {x.one(-1), x.one(0), x.one(1), x.one(2), x.one(MOST), x.one(LEAST)}, 2, 1, 45, -1, -1, -1);
        check.due("no provinces", new TamerState().one(-1), 0);
    }

    private static void tempers(Check check) {
        check.of("Promise 29", "TEMPERS of a PROVINCE, as bits. NONE.");
        TamerState x = Ring.of("0 0 0, 0 0 1", "3 0");
        x.done(0, 0, 1, 0);
        check.row("of which", new int[] {x.tempers(-1), x.tempers(0), x.tempers(1), x.tempers(2)}, -1, 1023, 896, -1);
        x.done(0, 0, 1, 2);
        check.due("none is no NONE", x.tempers(1), 0);
        check.due("without tamers", Ring.of("0 0 0", "").tempers(0), 1023);
    }

    private static void ask(Check check) {
        check.of("Promise 30", "To ASK: the TAMER (what 0), how many TEMPERS are left at most (1). NONE (no TEMPERS, no TAMERS).");
        TamerState x = Ring.of("0 0 0, 0 0 1", "20 0, 3 0");
        check.row("what", new int[] {x.ask(0, -1), x.ask(0, 0), x.ask(0, 1), x.ask(0, 2)}, -1, 1, 4, -1);
        check.row("of which", new int[] {x.ask(-1, 0), x.ask(1, 0), x.ask(2, 0)}, -1, 1, -1);
        x.done(0, 0, 0, 0);
        check.row("no tempers", new int[] {x.tempers(0), x.ask(0, 0), x.ask(0, 1)}, 0, -1, -1);
        check.due("the other", x.ask(1, 1), 4);
        TamerState y = Ring.of("0 0 0", "");
        check.row("no tamers", new int[] {y.tempers(0), y.ask(0, 0), y.ask(0, 1)}, 1023, -1, -1);
    }

    private static void governed(Check check) {
        check.of("Promise 31", "GOVERNED: how many (what 0), the TAMER of PROVINCE p (1 + p; 100: none). NONE.");
        TamerState x = Ring.of("0 0 0, 9 9 1", "0 0");
        check.row("what", new int[] {x.governed(LEAST), x.governed(-1), x.governed(0), x.governed(1), x.governed(2),
            x.governed(3), x.governed(MOST)}, -1, -1, 1, 0, 100, -1, -1);
        check.row("no provinces", new int[] {new TamerState().governed(0), new TamerState().governed(1)}, 0, -1);
        TamerState six = Ring.of("0 0 0, 0 0 1, 0 0 2, 0 0 3, 0 0 4, 0 0 5", "0 0, 0 0, 0 0, 0 0");
        check.row("six", new int[] {six.governed(0), six.governed(6), six.governed(7)}, 6, 2, -1);
    }

    private static void calmest(Check check) {
        check.of("Promise 32", "CALMEST. NONE (no TAMERS).");
        TamerState x = Ring.of("0 9 0, 0 9 1", "0 9, 0 9");
        x.meat(1, 1);
        check.row("of which", new int[] {x.calmest(-1), x.calmest(0), x.calmest(1), x.calmest(2)}, -1, 0, 1, -1);
        check.due("no tamers", Ring.of("0 0 0", "").calmest(0), -1);
        check.due("one", Ring.of("9 9 0", "0 0").calmest(0), 0);
    }

    private static void cubs(Check check) {
        check.of("Promise 33", "how many are LOYAL (i NONE), what is FED on DAY i (0 on; 100: none). NONE.");
        TamerState x = Ring.of("5 0 0", "4 0");
        check.row("i of 2 days", new int[] {x.cubs(0, 2, -2), x.cubs(0, 2, -1), x.cubs(0, 2, 0), x.cubs(0, 2, 1),
            x.cubs(0, 2, 2)}, -1, 1, 0, 0, -1);
        check.row("i of no days", new int[] {x.cubs(0, 0, -1), x.cubs(0, 0, 0)}, 0, -1);
        check.row("i of 4 days", new int[] {x.cubs(0, 4, 3), x.cubs(0, 4, 4)}, 0, -1);
        check.row("tamers", new int[] {x.cubs(-1, 1, -1), x.cubs(1, 1, -1)}, -1, -1);
        check.row("wild", new int[] {x.cubs(0, 1, LEAST), x.cubs(0, 1, MOST)}, -1, -1);
        check.due("none is fed", Ring.of("", "0 0").cubs(0, 1, 0), 100);
    }

    private static void cubsDays(Check check) {
        check.of("Promise 33", "CUBS in n DAYS 0 .. 4");
        TamerState x = Ring.of("0 0 0", "0 0");
        Check.forced(x, "angers 4-memory");
        check.row("days", new int[] {x.cubs(0, -1, -1), x.cubs(0, 0, -1), x.cubs(0, 3, -1), x.cubs(0, 4, -1), x.cubs(0, 5, -1)},
            -1, 0, 0, 1, -1);
        check.row("wild", new int[] {x.cubs(0, LEAST, -1), x.cubs(0, MOST, -1), x.cubs(0, 5, 4)}, -1, -1, -1);
    }

    private static void safe(Check check) {
        check.of("Promise 34", "SAFE, k 1 .. 20, n 0 .. 99. NONE.");
        TamerState x = new TamerState();
        x.terms(1, 0);
        check.due("k 0", x.safe(0, 0), -1);
        check.due("k -1", x.safe(-1, 0), -1);
        check.due("k 1", x.safe(1, 0), 1000000000000L);
        check.due("k 20", x.safe(20, 99), 1000000000000L);
        check.due("k 21", x.safe(21, 0), -1);
        check.due("n -1", x.safe(1, -1), -1);
        check.due("n 99", x.safe(1, 99), 1000000000000L);
        check.due("n 100", x.safe(1, 100), -1);
        check.due("wild", x.safe(MOST, LEAST), -1);
    }

    private static void compare(Check check) {
        check.of("Promise 35", "COMPARED. NONE (no such LAW, TAMER).");
        TamerState x = Ring.of("0 0 0", "0 0");
        check.row("no laws", new int[] {x.compare(-2, 0), x.compare(-1, 0), x.compare(0, 0)}, -1, 1, -1);
        Check.law(x, "angers 1");
        Check.law(x, "angers 0");
        check.row("laws", new int[] {x.compare(-2, 0), x.compare(-1, 0), x.compare(0, 0), x.compare(1, 0), x.compare(2, 0)},
            -1, 1, 0, 1, -1);
        check.row("tamers", new int[] {x.compare(1, -1), x.compare(1, 1), x.compare(-1, -1), x.compare(-1, 1)}, -1, -1, -1, -1);
        check.due("all six laws", sixLaws(x).compare(5, 0), 0);
        check.due("a seventh", x.compare(6, 0), -1);
    }

    private static TamerState sixLaws(TamerState x) {
        for (int n = 2; n < 6; n++) {
            Check.law(x, "angers 1");
        }
        return x;
    }

    private static void noneIsRefused(Check check) {
        check.of("Promise 41", "What the latest call of province, tamer, feud, terms, row, law, "
            + "orders, force, crack, meat, move, pass, undo, done, decades, image, back was REFUSED by");
        TamerState x = new TamerState();
        x.crack(0, 0);
        x.show(9, 9, 9);
        x.least(9, 9);
        x.seats(9);
        x.forget();
        x.one(9);
        x.tempers(9);
        x.ask(9, 9);
        x.governed(9);
        x.calmest(9);
        x.cubs(9, 9, 9);
        x.safe(99, 99);
        x.compare(9, 9);
        check.due("none of these", x.status(), -2);
        check.row("none of these", new int[] {x.count(7), x.count(8), x.count(9), x.count(10), x.count(11)}, 0, 1, 0, 0, 0);
    }
}
