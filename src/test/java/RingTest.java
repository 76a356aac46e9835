/** Promises 2 to 8: province, of, tamer, at, asks, feud, terms. */
public final class RingTest {
    public static void main(String[] args) {
        Check check = new Check("RingTest");
        provinces(check);
        tamers(check);
        whatIsAsked(check);
        whatALawChanges(check);
        feuds(check);
        terms(check);
        aFullRing(check);
        check.close();
    }

    private static void provinces(Check check) {
        TamerState x = new TamerState();
        int[][] wrong = {{-1, 0, 0}, {10, 0, 0}, {0, -1, 0}, {0, 10, 0}, {0, 0, -1}, {0, 0, 8},
            {Integer.MIN_VALUE, 0, 0}, {0, Integer.MAX_VALUE, 0}};
        for (int[] w : wrong) {
            check.due("province that can't be", x.province(w[0], w[1], w[2]), -1);
        }
        check.due("count(7)", x.count(7), wrong.length);
        check.due("count(0)", x.count(0), 0);
        check.due("province(9, 0, 7)", x.province(9, 0, 7), 0);
        check.due("province(0, 9, 0)", x.province(0, 9, 0), 1);
        check.due("province(3, 4, 7) taken", x.province(3, 4, 7), -3);
        for (int p = 2; p < 6; p++) {
            check.due("province " + p, x.province(p, p + 1, p), p);
        }
        check.due("-1 ahead of -3", x.province(10, 0, 7), -1);
        check.due("-3 ahead of -5", x.province(0, 0, 7), -3);
        check.due("-5", x.province(0, 0, 6), -5);
        check.due("status()", x.status(), -5);
        check.due("count(0)", x.count(0), 6);
        check.due("of(0, 0)", x.of(0, 0), 9);
        check.due("of(0, 1)", x.of(0, 1), 0);
        check.due("of(0, 2)", x.of(0, 2), 7);
        check.due("of(5, 0)", x.of(5, 0), 5);
        check.due("of(5, 1)", x.of(5, 1), 6);
        check.due("of(5, 2)", x.of(5, 2), 5);
        check.due("of(5, 3)", x.of(5, 3), 1);
        check.due("of(5, 4)", x.of(5, 4), 0);
        check.due("of(5, 5)", x.of(5, 5), -1);
        check.due("of(5, -1)", x.of(5, -1), -1);
        check.due("of(6, 0)", x.of(6, 0), -1);
        check.due("of(-1, 0)", x.of(-1, 0), -1);
        check.due("a NONE is not REFUSED", x.count(7), wrong.length + 1);
    }

    private static void tamers(Check check) {
        TamerState x = new TamerState();
        int[][] wrong = {{-1, 0}, {21, 0}, {0, -1}, {0, 100}};
        for (int[] w : wrong) {
            check.due("tamer that can't be", x.tamer(w[0], w[1]), -1);
        }
        check.due("tamer(20, 99)", x.tamer(20, 99), 0);
        check.due("tamer(0, 0)", x.tamer(0, 0), 1);
        check.due("tamer(7, 8)", x.tamer(7, 8), 2);
        check.due("status()", x.status(), 0);
        check.due("tamer(7, 8)", x.tamer(7, 8), 3);
        check.due("-1 ahead of -5", x.tamer(21, 8), -1);
        check.due("tamer -5", x.tamer(7, 8), -5);
        check.due("at(0, 0)", x.at(0, 0), 20);
        check.due("at(0, 1)", x.at(0, 1), 99);
        check.due("at(0, 2)", x.at(0, 2), 2);
        check.due("at(0, 3)", x.at(0, 3), 5);
        check.due("at(2, 0)", x.at(2, 0), 7);
        check.due("at(2, 1)", x.at(2, 1), 8);
        check.due("at(0, 4)", x.at(0, 4), -1);
        check.due("at(0, -1)", x.at(0, -1), -1);
        check.due("at(4, 0)", x.at(4, 0), -1);
        check.due("at(-1, 0)", x.at(-1, 0), -1);
        check.due("count(2)", x.count(2), 8);
    }

    private static void whatIsAsked(Check check) {
        TamerState x = new TamerState();
        x.province(4, 5, 0);
        for (int nerve = 5; nerve <= 9; nerve += 4) {
            x.tamer(nerve, 9);
        }
        x.tamer(6, 9);
        check.due("angers", x.asks(0, 0, 1), 9);
        check.due("four more than nerve: bites", x.asks(0, 0, 4), 0);
        check.due("three more: balks", x.asks(2, 0, 4), 1);
        check.due("as nerve: jumps", x.asks(1, 0, 4), 2);
        check.due("loyal", x.asks(1, 0, 3), 1);
        check.due("not loyal", x.asks(2, 0, 3), 0);
        check.due("not barred", x.asks(0, 0, 2), 0);
        check.due("memory", x.asks(0, 0, 0), 0);
        x.meat(0, 0);
        x.meat(0, 0);
        check.due("memory of that tamer", x.asks(0, 0, 0), 2);
        check.due("memory of another", x.asks(1, 0, 0), 0);
        check.due("0 + 5 - 2", x.asks(0, 0, 1), 3);
        check.due("0 + 5 - 0", x.asks(1, 0, 1), 5);
        for (int i = 0; i < 7; i++) {
            x.meat(0, 0);
        }
        check.due("memory 9", x.asks(0, 0, 0), 9);
        check.due("0 at least", x.asks(0, 0, 1), 0);
        int[][] none = {{-1, 0, 0}, {3, 0, 0}, {0, -1, 0}, {0, 1, 0}, {0, 0, -1}, {0, 0, 5}};
        for (int[] n : none) {
            check.due("asks NONE", x.asks(n[0], n[1], n[2]), -1);
        }
        TamerState y = new TamerState();
        y.province(9, 9, 0);
        y.tamer(0, 0);
        y.crack(0, 0);
        y.crack(0, 0);
        check.due("no arms", y.at(0, 2), 0);
        Check.forced(y, "bars");
        check.due("barred", y.asks(0, 0, 2), 1);
        check.due("arms, barred aside", y.asks(0, 0, 4), 0);
    }

    private static void whatALawChanges(Check check) {
        TamerState x = new TamerState();
        x.province(4, 5, 0);
        x.province(4, 5, 3);
        x.tamer(9, 9);
        Check.forced(x, "hungers tub;pays nerve * 20 if nerve > 3;angers 31 if tub = 3;angers 0 - 1 if tub = 0");
        check.due("hungers 0", x.of(0, 3), 0);
        check.due("hungers 3", x.of(1, 3), 3);
        check.due("99 at most", x.at(0, 3), 99);
        check.due("30 at most", x.asks(0, 1, 1), 30);
        check.due("0 at least", x.asks(0, 0, 1), 0);
        x.move(1, 7);
        Check.forced(x, "hungers tub + 3;pays 0 - 5");
        check.due("9 at most", x.of(1, 3), 9);
        check.due("hungers 3 on tub 0", x.of(0, 3), 3);
        check.due("paid 0 at least", x.at(0, 3), 0);
        x.force(-1);
        check.due("hungers without", x.of(1, 3), 1);
        check.due("paid without", x.at(0, 3), 5);
    }

    private static void aFullRing(Check check) {
        TamerState x = new TamerState();
        for (int p = 0; p < 6; p++) {
            x.province(p + 1, 9 - p, 7 - p);
        }
        for (int t = 0; t < 4; t++) {
            x.tamer(15 + t, 90 + t);
        }
        for (int t = 0; t < 4; t++) {
            for (int p = 0; p < 6; p++) {
                for (int times = 0; times < (t + p) % 3; times++) {
                    x.meat(t, p);
                }
            }
        }
        for (int p = 0; p < 6; p++) {
            check.due("of(" + p + ", 1)", x.of(p, 1), 9 - p);
            check.due("of(" + p + ", 2)", x.of(p, 2), 7 - p);
            check.due("of(" + p + ", 0)", x.of(p, 0), 0);
        }
        for (int t = 0; t < 4; t++) {
            check.due("at(" + t + ", 0)", x.at(t, 0), 15 + t);
            check.due("at(" + t + ", 1)", x.at(t, 1), 90 + t - 6);
            check.due("at(" + t + ", 2)", x.at(t, 2), 2);
            for (int p = 0; p < 6; p++) {
                check.due("asks(" + t + ", " + p + ", 0)", x.asks(t, p, 0), (t + p) % 3);
            }
        }
        x.pass();
        for (int n = 0; n < 4; n++) {
            check.due("a day later of(" + n + ", 0)", x.of(n, 0), 1);
            check.due("a day later of(" + n + ", 1)", x.of(n, 1), 9 - n);
            check.due("a day later at(" + n + ", 1)", x.at(n, 1), 90 + n - 6 + 5);
            check.due("a day later at(" + n + ", 2)", x.at(n, 2), 2);
        }
    }

    private static void feuds(Check check) {
        TamerState x = new TamerState();
        for (int p = 0; p < 3; p++) {
            x.province(0, 0, p);
        }
        check.due("feud(0, 2, 1)", x.feud(0, 2, 1), 0);
        check.due("feud(2, 0, 1)", x.feud(2, 0, 1), 1);
        check.due("feud(1, 2, 1)", x.feud(1, 2, 1), 0);
        check.due("of(0, 4)", x.of(0, 4), 4);
        check.due("of(1, 4)", x.of(1, 4), 4);
        check.due("of(2, 4)", x.of(2, 4), 3);
        check.due("feud(2, 0, 0)", x.feud(2, 0, 0), 1);
        check.due("of(0, 4)", x.of(0, 4), 0);
        check.due("of(2, 4)", x.of(2, 4), 2);
        check.due("status()", x.status(), 0);
        check.due("with itself", x.feud(1, 1, 1), -1);
        check.due("with itself, none such", x.feud(7, 7, 1), -1);
        check.due("is 2", x.feud(0, 1, 2), -1);
        check.due("is -1, none such", x.feud(0, 9, -1), -1);
        check.due("no such", x.feud(0, 3, 1), -2);
        check.due("no such below 0", x.feud(-1, 0, 1), -2);
        check.due("status()", x.status(), -2);
        check.due("count(7)", x.count(7), 4);
        check.due("count(8)", x.count(8), 2);
    }

    private static void terms(Check check) {
        TamerState x = new TamerState();
        check.due("terms(0, 999)", x.terms(0, 999), 0);
        check.due("terms(0, 3)", x.terms(0, 3), 999);
        check.due("terms(1, 10)", x.terms(1, 10), 1);
        check.due("terms(1, 0)", x.terms(1, 0), 10);
        check.due("terms(2, 9)", x.terms(2, 9), 0);
        int[][] wrong = {{0, 1000}, {0, -1}, {1, 11}, {1, -1}, {2, 10}, {2, -1}, {3, 0}, {-1, 0}};
        for (int[] w : wrong) {
            check.due("terms that can't be", x.terms(w[0], w[1]), -1);
        }
        check.due("count(13)", x.count(13), 3);
        check.due("count(14)", x.count(14), 0);
        check.due("count(15)", x.count(15), 9);
        check.due("count(7)", x.count(7), wrong.length);
    }
}
