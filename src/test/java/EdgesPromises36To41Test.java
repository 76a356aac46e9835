/** Promises 36 to 41, decades, images, counts and the status, at their bounds. */
public final class EdgesPromises36To41Test {
    public static void main(String[] args) {
        Check check = new Check("EdgesPromises36To41Test");
        decades(check);
        decadesWithoutOne(check);
        drawn(check);
        drawnIsTheLatest(check);
        image(check);
        back(check);
        count(check);
        countRefused(check);
        countOthers(check);
        status(check);
        statusOfEach(check);
        statusOfOthers(check);
        check.close();
    }

    private static void decades(Check check) {
        check.of("Promise 36", "DECADES, kept as the latest: how often one BIT. -1");
        TamerState x = Ring.of("9 9 0", "0 0");
        Check.forced(x, "angers 4");
        check.row("seeds", new int[] {x.decades(-1, 1), x.decades(1000001, 1), x.decades(Integer.MAX_VALUE, 1)}, -1, -1, -1);
        check.row("times", new int[] {x.decades(0, 0), x.decades(0, 61), x.decades(0, Integer.MIN_VALUE)}, -1, -1, -1);
        check.due("refused", x.count(7), 6);
        check.due("two bites", x.decades(1000000, 60), 2);
        check.due("status()", x.status(), 0);
        Check.forced(x, "angers 3");
        check.due("a balk is none", x.decades(1000000, 60), 0);
    }

    private static void decadesWithoutOne(Check check) {
        check.of("Promise 36", "-3 there are no TAMERS, no PROVINCES");
        check.due("neither", new TamerState().decades(0, 1), -3);
        check.due("no tamers", Ring.of("0 0 0", "").decades(0, 1), -3);
        check.due("no provinces", Ring.of("", "0 0").decades(0, 1), -3);
        check.due("one of each", Ring.of("0 0 0", "0 0").decades(0, 1), 0);
    }

    private static void drawn(Check check) {
        check.of("Promise 37", "Behind the latest DECADES HUNGER (what 0), TEMPER (1) of PROVINCE k, MEAT (2), ARMS (3) of "
            + "TAMER k. NONE.");
        TamerState x = Ring.of("1 2 0, 3 4 4", "20 5, 20 6, 20 7");
        for (int what = -1; what <= 4; what++) {
            check.due("ahead of any, " + what, x.drawn(0, what), -1);
        }
        Check.forced(x, "bars;hungers 1;pays 1 if day>0;pays 2 if day=0");
        x.terms(0, 998);
        // from 0 by 3 and 2: 12345, 628841, 621889: tamer 0 feeds province 1
        x.decades(0, 1);
        check.row("province 0", new int[] {x.drawn(0, 0), x.drawn(0, 1)}, 2, 2);
        check.row("province 1", new int[] {x.drawn(1, 0), x.drawn(1, 1)}, 1, 4);
        check.row("tamers", new int[] {x.drawn(0, 2), x.drawn(0, 3), x.drawn(1, 2), x.drawn(2, 2), x.drawn(2, 3)},
            5, 2, 7, 8, 2);
        check.row("no province", new int[] {x.drawn(2, 0), x.drawn(2, 1), x.drawn(-1, 0), x.drawn(-1, 1)}, -1, -1, -1, -1);
        check.row("no tamer", new int[] {x.drawn(3, 2), x.drawn(3, 3), x.drawn(-1, 2), x.drawn(-1, 3)}, -1, -1, -1, -1);
        check.row("no what", new int[] {x.drawn(0, -1), x.drawn(0, 4), x.drawn(0, Integer.MAX_VALUE)}, -1, -1, -1);
    }

    private static void drawnIsTheLatest(Check check) {
        check.of("Promise 37", "Behind the latest DECADES");
        TamerState x = Ring.of("0 0 0", "0 0");
        Check.forced(x, "bars;pays 1 if day>1;pays 0 if day<2");
        x.decades(0, 3);
        check.due("three days", x.drawn(0, 2), 1);
        x.decades(0, 61);
        check.due("a REFUSED one is none", x.drawn(0, 2), 1);
        x.pass();
        x.tamer(5, 50);
        x.image(0);
        x.back(0);
        check.due("what is behind them changes nothing", x.drawn(0, 2), 1);
        check.due("a new tamer is not in them", x.drawn(1, 2), -1);
        x.decades(0, 1);
        // the new tamer feeds
        check.row("the latest", new int[] {x.drawn(0, 2), x.drawn(1, 2)}, 0, 49);
    }

    private static void image(Check check) {
        check.of("Promise 38", "IMAGE k is kept: 0; -1.");
        TamerState x = new TamerState();
        check.row("image", new int[] {x.image(-1), x.image(0), x.image(1), x.image(2), x.image(Integer.MIN_VALUE)},
            -1, 0, 0, -1, -1);
        check.due("status()", x.status(), -1);
        check.due("image(1)", x.image(1), 0);
        check.due("status()", x.status(), 0);
    }

    private static void back(Check check) {
        check.of("Promise 39", "BACK to IMAGE k: 0. -1; -2 it was not kept.");
        TamerState x = new TamerState();
        check.row("none was kept", new int[] {x.back(-1), x.back(0), x.back(1), x.back(2)}, -1, -2, -2, -1);
        x.image(1);
        check.row("1 was", new int[] {x.back(0), x.back(1)}, -2, 0);
        check.due("status()", x.status(), 0);
        x.image(0);
        check.row("both were", new int[] {x.back(0), x.back(1), x.back(2)}, 0, 0, -1);
    }

    private static void count(Check check) {
        check.of("Promise 40", "0 PROVINCES, 1 TAMERS, 2 ARMS of all, 3 DONE, 4 LAWS, 5 how many can be undone, "
            + "6 bytes of the TAPE");
        TamerState x = Ring.of("9 9 0, 9 9 1, 9 9 2, 9 9 3, 9 9 4, 9 9 5", "0 7, 0 7, 0 7, 0 7");
        x.meat(0, 0);
        x.terms(2, 0);
        for (int n = 0; n < 6; n++) {
            Check.law(x, "bars");
        }
        for (int n = 0; n < 10; n++) {
            x.done(0, 0, 0, 0);
        }
        for (int n = 0; n < 20; n++) {
            x.feed(0, 0, 0, 0, 0);
        }
        check.row("all full", new int[] {x.count(0), x.count(1), x.count(2), x.count(3), x.count(4), x.count(5), x.count(6)},
            6, 4, 8, 10, 6, 0, 400);
        for (int t = 0; t < 4; t++) {
            x.crack(t, 0);
            x.crack(t, 1);
        }
        check.row("no arms", new int[] {x.count(2), x.count(5)}, 0, 8);
        for (int n = 0; n < 9; n++) {
            x.pass();
        }
        check.due("17 acts", x.count(5), 16);
    }

    private static void countRefused(Check check) {
        check.of("Promise 40", "7 .. 11 how many calls were REFUSED by -1, -2, -3, -5, -6 (IMAGES do not keep that)");
        TamerState x = Ring.of("0 0 0", "0 0, 0 0, 0 0, 0 0");
        x.image(0);
        x.province(10, 0, 0);
        x.crack(4, 0);
        x.crack(0, 1);
        x.undo();
        x.meat(0, 0);
        x.move(0, 0);
        for (int n = 0; n < 4; n++) {
            x.tamer(0, 0);
        }
        for (int n = 0; n < 5; n++) {
            x.row();
        }
        int[] want = {1, 2, 3, 4, 5};
        check.row("refused", new int[] {x.count(7), x.count(8), x.count(9), x.count(10), x.count(11)}, want);
        x.back(0);
        check.row("as ever", new int[] {x.count(7), x.count(8), x.count(9), x.count(10), x.count(11)}, want);
        x.back(1);
        check.due("one more", x.count(8), 3);
    }

    private static void countOthers(Check check) {
        check.of("Promise 40", "12 the LAW in FORCE, 13 .. 15 TERMS 0 .. 2. NONE for others.");
        TamerState x = new TamerState();
        check.row("at first", new int[] {x.count(12), x.count(13), x.count(14), x.count(15)}, -1, 0, 1, 0);
        Check.forced(x, "bars");
        x.terms(0, 999);
        x.terms(1, 10);
        x.terms(2, 9);
        check.row("then", new int[] {x.count(12), x.count(13), x.count(14), x.count(15)}, 0, 999, 10, 9);
        check.row("others", new int[] {x.count(-1), x.count(16), x.count(Integer.MIN_VALUE), x.count(Integer.MAX_VALUE)},
            -1, -1, -1, -1);
    }

    private static void status(Check check) {
        check.of("Promise 41", "0 if it was not, or ahead of any");
        TamerState x = new TamerState();
        check.due("ahead of any", x.status(), 0);
        check.due("it tells itself nothing", x.status(), 0);
        x.province(10, 0, 0);
        check.due("-1", x.status(), -1);
        check.due("it stays", x.status(), -1);
        x.province(9, 0, 0);
        check.due("not refused", x.status(), 0);
        x.force(-1);
        check.due("an answer of -1 that is no refusal", x.status(), 0);
    }

    /** Each call that has a status, refused by -1, -2, -3, -5 or -6 as told. */
    private static int refused(TamerState x, int call) {
        switch (call) {
            case 0: return x.province(10, 0, 0);
            case 1: return x.tamer(21, 0);
            case 2: return x.feud(0, 9, 1);
            case 3: return x.terms(3, 0);
            case 4: return x.row();
            case 5: return x.law();
            case 6: return x.orders();
            case 7: return x.force(9);
            case 8: return x.crack(9, 0);
            case 9: return x.meat(9, 0);
            case 10: return x.move(0, 8);
            case 11: return Check.orders(x, "crack 9 at 9");
            case 12:
                x.terms(2, 0);
                return x.undo();
            case 13: return x.done(0, 9, 0, 0);
            case 14: return x.decades(0, 61);
            case 15: return x.image(2);
            default: return x.back(1);
        }
    }

    private static int answered(TamerState x, int call) {
        switch (call) {
            case 0: return x.province(0, 0, 7);
            case 1: return x.tamer(20, 0);
            case 2: return x.feud(0, 1, 1);
            case 3: return x.terms(2, 0);
            case 4:
                x.feed(0, 0, 0, 0, 0);
                return x.row();
            case 5: return Check.law(x, "pays 5");
            case 6: return Check.orders(x, "pass if 1=2");
            case 7: return x.force(-1) + 1;
            case 8: return x.crack(0, 0);
            case 9: return x.meat(0, 0);
            case 10: return x.move(0, 5);
            case 11: return x.pass();
            case 12:
                x.pass();
                return x.undo();
            case 13: return x.done(0, 0, 0, 0);
            case 14: return x.decades(0, 60);
            case 15: return x.image(0);
            default: return x.back(0);
        }
    }

    private static void statusOfEach(Check check) {
        check.of("Promise 41", "What the latest call of province, tamer, feud, terms, row, law, orders, force, crack, meat, "
            + "move, pass, undo, done, decades, image, back was REFUSED by");
        int[] by = {-1, -1, -2, -1, -6, -6, -6, -2, -2, -2, -1, -3, -3, -2, -1, -1, -2};
        TamerState x = Ring.of("0 0 0, 0 0 1", "20 9");
        for (int call = 0; call < by.length; call++) {
            check.due("refused " + call, refused(x, call), by[call]);
            check.due("its status", x.status(), by[call]);
            check.due("answered " + call, answered(x, call) >= 0 ? 1 : 0, 1);
            check.due("its status", x.status(), 0);
        }
        x.terms(0, 999);
        check.due("pass()", x.pass(), -3);
        check.due("its status", x.status(), -3);
    }

    private static void statusOfOthers(Check check) {
        check.of("Promise 41", "What the latest call of");
        TamerState x = Ring.of("0 0 0", "0 0");
        x.undo();
        x.of(9, 9);
        x.at(9, 9);
        x.asks(9, 9, 9);
        x.feed(0, 0, 0, 0, 0);
        x.end(99);
        x.end(0);
        x.saucers();
        x.fault();
        x.stopped();
        x.forget();
        x.drawn(9, 9);
        x.count(99);
        x.seats(0);
        check.due("none of these has one", x.status(), -3);
        x.pass();
        x.of(9, 9);
        x.end(99);
        x.drawn(9, 9);
        check.due("none of these has one", x.status(), 0);
    }
}
