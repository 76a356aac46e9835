/** "Terms" I, sentence by sentence: each bound at the last value that is fine and at the first that is not. */
public final class EdgesTermsOneTest {
    private static final String PART = "Terms I";

    public static void main(String[] args) {
        Check check = new Check("EdgesTermsOneTest");
        calls(check);
        tubs(check);
        tubsInARing(check);
        provinces(check);
        hunger(check);
        temper(check);
        aTubEach(check);
        tamers(check);
        nerve(check);
        meat(check);
        arms(check);
        memory(check);
        feuds(check);
        doneAtMost(check);
        doneOnADay(check);
        doneWhat(check);
        day(check);
        thunder(check);
        mood(check);
        eachRefusal(check);
        firstInOrder(check);
        check.close();
    }

    private static void calls(Check check) {
        check.of("What it is", "An object is used for at most 512 calls after it has been made");
        TamerState x = new TamerState();
        for (int n = 1; n <= 511; n++) {
            check.due("call " + n, x.pass(), n);
        }
        check.due("call 512", x.pass(), 512);
    }

    private static void tubs(Check check) {
        check.of(PART, "TUBS 0 .. 7");
        TamerState x = new TamerState();
        check.due("province on -1", x.province(0, 0, -1), -1);
        check.due("province on 8", x.province(0, 0, 8), -1);
        check.due("province on 0", x.province(0, 0, 0), 0);
        check.due("province on 7", x.province(0, 0, 7), 1);
        check.due("move to -1", x.move(0, -1), -1);
        check.due("move to 8", x.move(1, 8), -1);
        check.due("move to 6", x.move(1, 6), 7);
        check.due("move to 7", x.move(1, 7), 6);
        check.due("move to 1", x.move(0, 1), 0);
        check.due("move to 0", x.move(0, 0), 1);
        check.row("tubs", Ring.tubs(x), 0, 7);
    }

    private static void tubsInARing(Check check) {
        check.of(PART, "in a ring (7 is next to 0)");
        TamerState x = Ring.of("0 5 6, 0 5 7, 0 5 0, 0 5 1, 0 5 5, 0 5 2", "20 0");
        x.crack(0, 1);
        check.row("on 6, 7, 0, 1, 5, 2 behind a jump on 7", Ring.tempers(x), 4, 5, 4, 5, 5, 5);
        x.crack(0, 2);
        check.row("on 6, 7, 0, 1, 5, 2 behind one on 0", Ring.tempers(x), 4, 4, 4, 4, 5, 5);
        TamerState y = Ring.of("0 0 7, 0 0 0", "");
        y.feud(0, 1, 1);
        check.due("a feud on 7 and 0", y.seats(0), 1);
        TamerState z = Ring.of("0 0 6, 0 0 0", "");
        z.feud(0, 1, 1);
        check.due("a feud on 6 and 0", z.seats(0), 0);
    }

    private static void provinces(Check check) {
        check.of(PART, "PROVINCES 0 .. 5 (6 at most)");
        TamerState x = new TamerState();
        for (int p = 0; p < 6; p++) {
            check.due("province " + p, x.province(0, 0, p), p);
        }
        check.due("the seventh", x.province(0, 0, 6), -5);
        check.due("how many", x.count(0), 6);
        check.due("of 5", x.of(5, 2), 5);
        check.due("of 6", x.of(6, 2), -1);
        check.due("of -1", x.of(-1, 2), -1);
    }

    private static void hunger(Check check) {
        check.of(PART, "HUNGER 0 .. 9");
        TamerState x = new TamerState();
        check.due("hunger -1", x.province(-1, 5, 0), -1);
        check.due("hunger 10", x.province(10, 5, 0), -1);
        check.due("hunger 0", x.province(0, 5, 0), 0);
        check.due("hunger 9", x.province(9, 5, 1), 1);
        check.row("hunger", Ring.hungers(x), 0, 9);
    }

    private static void temper(Check check) {
        check.of(PART, "TEMPER 0 .. 9");
        TamerState x = new TamerState();
        check.due("temper -1", x.province(5, -1, 0), -1);
        check.due("temper 10", x.province(5, 10, 0), -1);
        check.due("temper 0", x.province(5, 0, 0), 0);
        check.due("temper 9", x.province(5, 9, 1), 1);
        check.row("temper", Ring.tempers(x), 0, 9);
    }

    private static void aTubEach(Check check) {
        check.of(PART, "a TUB (each its own)");
        TamerState x = Ring.of("1 1 3", "");
        check.due("a province on another's tub", x.province(2, 2, 3), -3);
        check.due("on the one beside it", x.province(2, 2, 4), 1);
        check.due("a move to another's", x.move(1, 3), -3);
        Check.writeBytes(x, new byte[] {0, 0, 4, 0, 0, 5});
        check.due("a row with another's", x.row(), 1);
        check.row("tubs", Ring.tubs(x), 3, 4, 5);
    }

    private static void tamers(Check check) {
        check.of(PART, "TAMERS 0 .. 3 (4 at most)");
        TamerState x = new TamerState();
        for (int t = 0; t < 4; t++) {
            check.due("tamer " + t, x.tamer(t, 0), t);
        }
        check.due("the fifth", x.tamer(4, 0), -5);
        check.due("how many", x.count(1), 4);
        check.due("at 3", x.at(3, 0), 3);
        check.due("at 4", x.at(4, 0), -1);
        check.due("at -1", x.at(-1, 0), -1);
    }

    private static void nerve(Check check) {
        check.of(PART, "NERVE 0 .. 20");
        TamerState x = new TamerState();
        check.due("nerve -1", x.tamer(-1, 5), -1);
        check.due("nerve 21", x.tamer(21, 5), -1);
        check.due("nerve 0", x.tamer(0, 5), 0);
        check.due("nerve 20", x.tamer(20, 5), 1);
        check.due("at(0, 0)", x.at(0, 0), 0);
        check.due("at(1, 0)", x.at(1, 0), 20);
    }

    private static void meat(Check check) {
        check.of(PART, "MEAT 0 .. 99");
        TamerState x = new TamerState();
        check.due("meat -1", x.tamer(5, -1), -1);
        check.due("meat 100", x.tamer(5, 100), -1);
        check.due("meat 0", x.tamer(5, 0), 0);
        check.due("meat 99", x.tamer(5, 99), 1);
        check.due("at(0, 1)", x.at(0, 1), 0);
        check.due("at(1, 1)", x.at(1, 1), 99);
    }

    private static void arms(Check check) {
        check.of(PART, "ARMS 0 .. 2 (2 at first)");
        TamerState x = Ring.of("9 9 0", "0 0, 20 0");
        check.due("at first", x.at(0, 2), 2);
        check.due("of the other", x.at(1, 2), 2);
        x.crack(0, 0);
        check.due("behind a bite", x.at(0, 2), 1);
        x.crack(0, 0);
        check.due("behind two", x.at(0, 2), 0);
        x.crack(0, 0);
        check.due("there is no third", x.at(0, 2), 0);
        x.crack(1, 0);
        x.pass();
        check.due("nothing makes more of them", x.at(1, 2), 2);
    }

    private static void memory(Check check) {
        check.of(PART, "MEMORY 0 .. 9 of each PROVINCE of each TAMER (0 at first)");
        TamerState x = Ring.of("0 0 0, 0 0 1, 0 0 2, 0 0 3, 0 0 4, 0 0 5", "0 50, 0 50, 0 50, 0 50");
        for (int t = 0; t < 4; t++) {
            for (int p = 0; p < 6; p++) {
                check.due("at first " + t + " " + p, x.asks(t, p, 0), 0);
            }
        }
        Ring.meat(x, 8, 1, 5);
        check.due("behind 8", x.asks(1, 5, 0), 8);
        x.meat(1, 5);
        check.due("behind 9", x.asks(1, 5, 0), 9);
        x.meat(1, 5);
        check.due("behind 10", x.asks(1, 5, 0), 9);
        x.meat(3, 5);
        x.meat(0, 0);
        for (int t = 0; t < 4; t++) {
            for (int p = 0; p < 6; p++) {
                int fed = t == 1 && p == 5 ? 9 : t == 3 && p == 5 || t == 0 && p == 0 ? 1 : 0;
                check.due("of each " + t + " " + p, x.asks(t, p, 0), fed);
            }
        }
    }

    private static void feuds(Check check) {
        check.of(PART, "FEUDS of two PROVINCES, or not (at first)");
        TamerState x = Ring.of("0 0 0, 0 0 1, 0 0 2, 0 0 3, 0 0 4, 0 0 5", "");
        for (int p = 0; p < 6; p++) {
            check.due("at first of " + p, x.of(p, 4), 0);
        }
        check.due("it was none", x.feud(0, 5, 1), 0);
        check.due("of the one", x.of(0, 4), 32);
        check.due("of the other", x.of(5, 4), 1);
        check.due("of a third", x.of(1, 4), 0);
    }

    private static void doneAtMost(Check check) {
        check.of(PART, "DONE, 10 at most");
        TamerState x = Ring.of("0 0 0", "0 0");
        for (int n = 1; n <= 10; n++) {
            check.due("the one of number " + n, x.done(1, 0, 0, 1), n);
        }
        check.due("the eleventh", x.done(1, 0, 0, 1), -5);
        check.due("how many", x.count(3), 10);
    }

    private static void doneOnADay(Check check) {
        check.of(PART, "on a DAY 0 .. 99");
        TamerState x = Ring.of("0 0 0", "0 0");
        check.due("day -1", x.done(-1, 0, 0, 1), -1);
        check.due("day 100", x.done(100, 0, 0, 1), -1);
        check.due("day 0", x.done(0, 0, 0, 1), 1);
        check.due("day 99", x.done(99, 0, 0, 1), 2);
    }

    private static void doneWhat(Check check) {
        check.of(PART, "a PROVINCE did 0 .. 2 when a TAMER cracked");
        TamerState x = Ring.of("0 0 0", "0 0");
        check.due("it did -1", x.done(1, 0, 0, -1), -1);
        check.due("it did 3", x.done(1, 0, 0, 3), -1);
        check.due("it did 0", x.done(1, 0, 0, 0), 1);
        check.due("it did 2", x.done(1, 0, 0, 2), 2);
        check.due("tamer 1", x.done(1, 1, 0, 2), -2);
        check.due("province 1", x.done(1, 0, 1, 2), -2);
    }

    private static void term(Check check, int what, int first, int top) {
        TamerState x = new TamerState();
        check.due("at first", x.count(13 + what), first);
        check.due("-1", x.terms(what, -1), -1);
        check.due("one beyond", x.terms(what, top + 1), -1);
        check.due("as it was", x.count(13 + what), first);
        check.due("the highest", x.terms(what, top), first);
        check.due("it is", x.count(13 + what), top);
        check.due("0", x.terms(what, 0), top);
        check.due("it is 0", x.count(13 + what), 0);
    }

    private static void day(Check check) {
        check.of(PART, "0 DAY 0 .. 999 (0 at first)");
        term(check, 0, 0, 999);
    }

    private static void thunder(Check check) {
        check.of(PART, "1 THUNDER 0 .. 10 (1)");
        term(check, 1, 1, 10);
    }

    private static void mood(Check check) {
        check.of(PART, "2 MOOD 0 .. 9 (0)");
        term(check, 2, 0, 9);
    }

    /** A refused call leaves all as it was, and tells by what. */
    private static void refused(Check check, TamerState x, String call, String ahead, int by, int got) {
        check.due(call, got, by);
        check.due(call + ", status()", x.status(), by);
        check.same(call + ", all as it was", Ring.all(x), ahead);
    }

    private static void eachRefusal(Check check) {
        check.of(PART, "REFUSED by: -1 a number that can't be; -2 there is no such PROVINCE, TAMER, LAW, IMAGE; "
            + "-3 it can't be by what stands; -5 no room; -6 a TEXT, a ROW that can't be.");
        TamerState x = Ring.of("9 9 0", "0 0");
        x.pass();
        String ahead = Ring.all(x);
        refused(check, x, "province", ahead, -1, x.province(10, 0, 1));
        refused(check, x, "no PROVINCE", ahead, -2, x.meat(0, 1));
        refused(check, x, "no TAMER", ahead, -2, x.meat(1, 0));
        refused(check, x, "no LAW", ahead, -2, x.force(0));
        refused(check, x, "no IMAGE", ahead, -2, x.back(0));
        refused(check, x, "the tub is taken", ahead, -3, x.province(1, 1, 0));
        refused(check, x, "no row", ahead, -6, x.row());
        TamerState y = Ring.of("9 9 0", "0 0, 1 1, 2 2, 3 3");
        y.pass();
        ahead = Ring.all(y);
        refused(check, y, "a fifth tamer", ahead, -5, y.tamer(0, 0));
    }

    private static void firstInOrder(Check check) {
        check.of(PART, "The first of these in that order.");
        TamerState x = Ring.of("9 9 0, 9 9 1, 9 9 2, 9 9 3, 9 9 4, 9 9 5", "0 0, 0 0, 0 0, 0 0");
        check.due("province: -1, -3, -5", x.province(10, 0, 0), -1);
        check.due("province: -1, -5", x.province(10, 0, 6), -1);
        check.due("province: -3, -5", x.province(0, 0, 5), -3);
        check.due("province: -5", x.province(0, 0, 6), -5);
        check.due("tamer: -1, -5", x.tamer(0, 100), -1);
        check.due("tamer: -5", x.tamer(0, 99), -5);
        check.due("feud: -1, -2", x.feud(6, 6, 1), -1);
        check.due("feud: -1, -2", x.feud(0, 6, 2), -1);
        check.due("feud: -2", x.feud(0, 6, 1), -2);
        check.due("crack: -2, -3", noArms(x).crack(0, 6), -2);
        check.due("crack: -3", x.crack(0, 5), -3);
        check.due("meat: -2, -3", x.meat(0, 6), -2);
        check.due("meat: -3", x.meat(0, 5), -3);
        check.due("move: -1, -2", x.move(6, 8), -1);
        check.due("move: -2, -3", x.move(6, 0), -2);
        check.due("move: -3", x.move(5, 0), -3);
        for (int n = 1; n <= 10; n++) {
            x.done(0, 0, 0, 0);
        }
        check.due("done: -1, -2, -5", x.done(100, 4, 0, 0), -1);
        check.due("done: -1, -5", x.done(99, 3, 0, 3), -1);
        check.due("done: -2, -5", x.done(99, 4, 0, 0), -2);
        check.due("done: -5", x.done(99, 3, 5, 2), -5);
        for (int n = 0; n < 6; n++) {
            Check.law(x, "bars");
        }
        check.due("law: -5, -6", Check.law(x, "bars bars"), -5);
        TamerState y = new TamerState();
        check.due("decades: -1, -3", y.decades(0, 61), -1);
        check.due("decades: -3", y.decades(0, 60), -3);
        check.due("back: -1, -2", y.back(2), -1);
        check.due("back: -2", y.back(1), -2);
    }

    private static TamerState noArms(TamerState x) {
        x.crack(0, 0);
        x.crack(0, 0);
        return x;
    }
}
