/** Promises 1 to 12, the ring and the tape: what each call is refused by, and where it answers NONE. */
public final class EdgesPromises1To12Test {
    public static void main(String[] args) {
        Check check = new Check("EdgesPromises1To12Test");
        anEmptyRing(check);
        province(check);
        of(check);
        tamer(check);
        at(check);
        asks(check);
        asksWouldDo(check);
        feud(check);
        terms(check);
        feed(check);
        feedBeyond(check);
        end(check);
        row(check);
        saucers(check);
        check.close();
    }

    private static void anEmptyRing(Check check) {
        check.of("Promise 1", "An empty ring.");
        TamerState x = new TamerState();
        int[] counts = {0, 0, 0, 0, 0, 0, 0, 0, 0, 0, 0, 0, -1, 0, 1, 0};
        for (int what = 0; what < counts.length; what++) {
            check.due("count(" + what + ")", x.count(what), counts[what]);
        }
        check.row("nothing of anyone", new int[] {x.of(0, 0), x.at(0, 0), x.asks(0, 0, 0), x.show(0, 0, -1), x.least(0, 0),
            x.tempers(0), x.ask(0, 0), x.calmest(0), x.cubs(0, 0, -1), x.compare(-1, 0), x.drawn(0, 0), x.drawn(0, 2)},
            -1, -1, -1, -1, -1, -1, -1, -1, -1, -1, -1, -1);
        check.row("nothing at all", new int[] {x.seats(0), x.governed(0), x.one(-1), x.forget(), x.saucers(), x.status()},
            0, 0, 0, 0, 0, 0);
        check.row("nothing was read", new int[] {x.fault(), x.stopped()}, -1, -1);
        x.province(1, 1, 1);
        check.due("another object is its own", new TamerState().count(0), 0);
    }

    private static void province(Check check) {
        check.of("Promise 2", "A PROVINCE: its number. -1; -3 the TUB is taken; -5.");
        TamerState x = new TamerState();
        int[][] wrong = {{-1, 0, 0}, {10, 0, 0}, {0, -1, 0}, {0, 10, 0}, {0, 0, -1}, {0, 0, 8},
            {Integer.MIN_VALUE, 0, 0}, {0, Integer.MAX_VALUE, 0}, {0, 0, 256}};
        for (int[] w : wrong) {
            check.due("province(" + w[0] + ", " + w[1] + ", " + w[2] + ")", x.province(w[0], w[1], w[2]), -1);
        }
        check.due("the first", x.province(9, 9, 7), 0);
        check.due("the second", x.province(0, 0, 0), 1);
        check.due("taken", x.province(0, 0, 7), -3);
        check.due("free", x.province(0, 0, 6), 2);
        x.province(0, 0, 5);
        x.province(0, 0, 4);
        check.due("the sixth", x.province(0, 0, 3), 5);
        check.due("the seventh", x.province(0, 0, 2), -5);
        x.move(2, 1);
        check.due("taken by a move", x.province(0, 0, 1), -3);
    }

    private static void of(Check check) {
        check.of("Promise 3", "by how much it HUNGERS (3), with whom it has FEUDS, as bits (4). NONE.");
        TamerState x = Ring.of("1 2 3, 4 5 6", "");
        x.feud(0, 1, 1);
        check.row("of the first", new int[] {x.of(0, -1), x.of(0, 0), x.of(0, 1), x.of(0, 2), x.of(0, 3), x.of(0, 4),
            x.of(0, 5)}, -1, 1, 2, 3, 1, 2, -1);
        check.due("of the last", x.of(1, 4), 1);
        for (int what = 0; what < 5; what++) {
            check.due("of(2, " + what + ")", x.of(2, what), -1);
            check.due("of(-1, " + what + ")", x.of(-1, what), -1);
        }
        check.due("it is no REFUSED call", x.status() + x.count(7) + x.count(8), 0);
        TamerState y = Ring.of("0 0 0, 0 0 1, 0 0 2, 0 0 3, 0 0 4, 0 0 5", "");
        for (int p = 0; p < 5; p++) {
            y.feud(5, p, 1);
        }
        check.due("with all of the others", y.of(5, 4), 31);
        check.due("with the last alone", y.of(0, 4), 32);
    }

    private static void tamer(Check check) {
        check.of("Promise 4", "A TAMER: the number. -1; -5.");
        TamerState x = new TamerState();
        int[][] wrong = {{-1, 0}, {21, 0}, {0, -1}, {0, 100}, {Integer.MAX_VALUE, 0}, {0, Integer.MIN_VALUE}};
        for (int[] w : wrong) {
            check.due("tamer(" + w[0] + ", " + w[1] + ")", x.tamer(w[0], w[1]), -1);
        }
        check.due("the first", x.tamer(20, 99), 0);
        check.due("the second", x.tamer(0, 0), 1);
        x.tamer(1, 1);
        check.due("the fourth", x.tamer(1, 1), 3);
        check.due("the fifth", x.tamer(1, 1), -5);
        check.due("how many", x.count(1), 4);
    }

    private static void at(Check check) {
        check.of("Promise 5", "Of a TAMER NERVE (what 0), MEAT (1), ARMS (2), what it is PAID (3). NONE.");
        TamerState x = Ring.of("", "3 4, 20 99");
        check.row("at the first", new int[] {x.at(0, -1), x.at(0, 0), x.at(0, 1), x.at(0, 2), x.at(0, 3), x.at(0, 4)},
            -1, 3, 4, 2, 5, -1);
        check.row("at the last", new int[] {x.at(1, 0), x.at(1, 1), x.at(1, 2), x.at(1, 3)}, 20, 99, 2, 5);
        for (int what = 0; what < 4; what++) {
            check.due("at(2, " + what + ")", x.at(2, what), -1);
            check.due("at(-1, " + what + ")", x.at(-1, what), -1);
        }
    }

    private static void asks(Check check) {
        check.of("Promise 6", "MEMORY (what 0), how it ANGERS it (1), whether BARRED (2: 1, 0), LOYAL (3: 1, 0)");
        TamerState x = Ring.of("3 4 0, 9 9 1", "6 5, 0 5");
        check.row("of the first", new int[] {x.asks(0, 0, -1), x.asks(0, 0, 0), x.asks(0, 0, 1), x.asks(0, 0, 2),
            x.asks(0, 0, 3), x.asks(0, 0, 4), x.asks(0, 0, 5)}, -1, 0, 7, 0, 0, 1, -1);
        x.meat(0, 0);
        Check.forced(x, "bars if memory=1");
        check.row("of the first, fed", new int[] {x.asks(0, 0, 0), x.asks(0, 0, 1), x.asks(0, 0, 2), x.asks(0, 0, 3),
            x.asks(0, 0, 4)}, 1, 3, 1, 1, 2);
        for (int what = 0; what < 5; what++) {
            check.row("there is no such one", new int[] {x.asks(2, 0, what), x.asks(-1, 0, what), x.asks(0, 2, what),
                x.asks(0, -1, what)}, -1, -1, -1, -1);
        }
        check.row("of the last", new int[] {x.asks(1, 1, 0), x.asks(1, 1, 1), x.asks(1, 1, 2), x.asks(1, 1, 3),
            x.asks(1, 1, 4)}, 0, 18, 0, 0, 0);
    }

    private static void asksWouldDo(Check check) {
        check.of("Promise 6", "what it would do (4: 0, 1, 2; BARRED, ARMS aside). NONE.");
        int[] nerves = {2, 3, 5, 6, 7};
        int[] want = {0, 1, 1, 2, 2};
        for (int n = 0; n < nerves.length; n++) {
            TamerState x = Ring.of("3 3 0, 9 9 4", nerves[n] + " 0");
            check.due("by nerve " + nerves[n], x.asks(0, 0, 4), want[n]);
            x.crack(0, 1);
            x.crack(0, 1);
            check.due("without arms", x.at(0, 2), 0);
            Check.forced(x, "bars");
            check.due("barred, without arms, by nerve " + nerves[n], x.asks(0, 0, 4), want[n]);
        }
    }

    private static void feud(Check check) {
        check.of("Promise 7", "A FEUD of two PROVINCES, or none (1, 0): what it was. -1 (with itself); -2.");
        TamerState x = Ring.of("0 0 0, 0 0 1, 0 0 2", "");
        check.due("it was none", x.feud(0, 2, 0), 0);
        check.due("it was none", x.feud(0, 2, 1), 0);
        check.due("it was one", x.feud(2, 0, 1), 1);
        check.due("it was one", x.feud(2, 0, 0), 1);
        check.due("is -1", x.feud(0, 2, -1), -1);
        check.due("is 2", x.feud(0, 2, 2), -1);
        check.due("with itself", x.feud(2, 2, 1), -1);
        check.due("with itself, none", x.feud(2, 2, 0), -1);
        check.due("with one that is not there", x.feud(2, 3, 1), -2);
        check.due("of one that is not there", x.feud(3, 2, 1), -2);
        check.due("of one below 0", x.feud(-1, 2, 1), -2);
        check.row("none is left", new int[] {x.of(0, 4), x.of(1, 4), x.of(2, 4)}, 0, 0, 0);
    }

    private static void terms(Check check) {
        check.of("Promise 8", "A TERM: what it was. -1.");
        TamerState x = new TamerState();
        check.row("wrong", new int[] {x.terms(-1, 0), x.terms(3, 0), x.terms(0, 1000), x.terms(0, -1), x.terms(1, 11),
            x.terms(1, -1), x.terms(2, 10), x.terms(2, -1)}, -1, -1, -1, -1, -1, -1, -1, -1);
        check.row("what it was", new int[] {x.terms(0, 999), x.terms(1, 10), x.terms(2, 9)}, 0, 1, 0);
        check.row("what it was then", new int[] {x.terms(0, 0), x.terms(1, 0), x.terms(2, 0)}, 999, 10, 9);
    }

    private static void feed(Check check) {
        check.of("Promise 9", "Twenty bytes come behind the TAPE, four of each number, the highest first: how many it has.");
        TamerState x = new TamerState();
        check.due("twenty", x.feed(0x01020309, 0x08070000, 0, 0, 0), 20);
        x.end(6);
        check.due("twenty behind six", x.feed(0x05040600, 0, 0, 0, 0), 26);
        x.end(9);
        check.due("a row", x.row(), 3);
        check.row("hunger", Ring.hungers(x), 1, 9, 5);
        check.row("temper", Ring.tempers(x), 2, 8, 4);
        check.row("tub", Ring.tubs(x), 3, 7, 6);
        TamerState y = new TamerState();
        y.feed(-1, 0x80808080, 0x7f7f7f7f, 0x0a0a0a01, 0x02030405);
        check.due("bytes are 0 .. 255", y.row(), 1);
        check.due("saucers", y.saucers(), 6);
        check.row("the sixth three", new int[] {y.of(0, 0), y.of(0, 1), y.of(0, 2)}, 1, 2, 3);
    }

    private static void feedBeyond(Check check) {
        check.of("Promise 9", "NONE, if there would be more than 400.");
        TamerState x = new TamerState();
        for (int n = 20; n <= 400; n += 20) {
            check.due("feed", x.feed(0, 0, 0, 0, 0), n);
        }
        check.due("at 400", x.feed(0, 0, 0, 0, 0), -1);
        check.due("as it was", x.count(6), 400);
        x.end(381);
        check.due("at 381", x.feed(0, 0, 0, 0, 0), -1);
        check.due("as it was", x.count(6), 381);
        x.end(380);
        check.due("at 380", x.feed(0, 0, 0, 0, 0), 400);
        check.due("it is no REFUSED call", x.status() + x.count(7) + x.count(10), 0);
    }

    private static void end(Check check) {
        check.of("Promise 10", "The TAPE has its first n bytes alone: n. NONE, if it has not so many, or n is below 0.");
        TamerState x = new TamerState();
        check.due("0 of 0", x.end(0), 0);
        check.due("1 of 0", x.end(1), -1);
        x.feed(0x01020304, 0, 0, 0, 0);
        check.due("21 of 20", x.end(21), -1);
        check.due("20 of 20", x.end(20), 20);
        check.due("-1", x.end(-1), -1);
        check.due("the least", x.end(Integer.MIN_VALUE), -1);
        check.due("as it was", x.count(6), 20);
        check.due("3 of 20", x.end(3), 3);
        check.due("4 of 3", x.end(4), -1);
        check.due("the first three", x.row(), 1);
        check.row("the first three", new int[] {x.of(0, 0), x.of(0, 1), x.of(0, 2)}, 1, 2, 3);
    }

    private static void row(Check check) {
        check.of("Promise 11", "A ROW, the TAPE is empty then: how many PROVINCES came. -6 the TAPE is empty.");
        TamerState x = new TamerState();
        check.due("nothing", x.row(), -6);
        check.due("status()", x.status(), -6);
        x.feed(0, 0, 0, 0, 0);
        x.end(1);
        check.due("one byte", x.row(), 0);
        check.due("status()", x.status(), 0);
        check.due("the tape", x.count(6), 0);
        check.due("nothing any more", x.row(), -6);
        x.feed(0, 0, 0, 0, 0);
        x.end(3);
        check.due("three bytes", x.row(), 1);
        check.due("the tape", x.count(6), 0);
        x.feed(0, 0, 0, 0, 0);
        x.end(0);
        check.due("ended at 0", x.row(), -6);
    }

    private static void saucers(Check check) {
        check.of("Promise 12", "How many SAUCERS the latest row() had that was not REFUSED (0 ahead of any).");
        TamerState x = new TamerState();
        check.due("ahead of any", x.saucers(), 0);
        x.row();
        check.due("behind a REFUSED one", x.saucers(), 0);
        Check.writeBytes(x, new byte[] {9, 9, 9, 9, 9, 9, 9});
        x.row();
        check.due("three", x.saucers(), 3);
        x.row();
        check.due("behind a REFUSED one", x.saucers(), 3);
        Check.writeBytes(x, new byte[] {1, 1, 1});
        x.row();
        check.due("none in the latest", x.saucers(), 0);
    }
}
