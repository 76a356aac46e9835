/** Promises 34, 36, 37: safe, decades, drawn. */
public final class ChanceTest {
    private static final long WHOLE = 1000000000000L;

    public static void main(String[] args) {
        Check check = new Check("ChanceTest");
        safe(check);
        eachPartIsCut(check);
        decades(check);
        decadesThatEnd(check);
        refused(check);
        check.close();
    }

    private static void safe(Check check) {
        TamerState x = new TamerState();
        check.due("safe(1, 0)", x.safe(1, 0), WHOLE);
        check.due("safe(20, 0)", x.safe(20, 0), WHOLE);
        check.due("safe(1, 1)", x.safe(1, 1), 900000000000L);
        check.due("safe(2, 1)", x.safe(2, 1), WHOLE);
        check.due("safe(1, 2)", x.safe(1, 2), 810000000000L);
        check.due("safe(2, 3)", x.safe(2, 3), 972000000000L);
        x.terms(1, 5);
        check.due("safe(2, 4)", x.safe(2, 4), 312500000000L);
        x.terms(1, 0);
        check.due("it never thunders", x.safe(1, 99), WHOLE);
        x.terms(1, 10);
        check.due("it always does", x.safe(20, 19), WHOLE);
        check.due("it always does", x.safe(20, 20), 0);
        check.due("it always does", x.safe(1, 1), 0);
        int[][] none = {{0, 0}, {21, 0}, {1, -1}, {1, 100}, {-1, 5}};
        for (int[] n : none) {
            check.due("safe NONE", x.safe(n[0], n[1]), -1);
        }
        check.due("none is REFUSED", x.count(7), 0);
    }

    /** By 9 of 10 thirteen times: 12 digits hold twelve times 9 alone, the thirteenth is cut. */
    private static void eachPartIsCut(Check check) {
        TamerState x = new TamerState();
        long left = WHOLE;
        for (int n = 1; n <= 99; n++) {
            left = left * 9 / 10;
            check.due("safe(1, " + n + ")", x.safe(1, n), left);
        }
        x.terms(1, 3);
        long none = WHOLE;
        long once = 0;
        for (int n = 1; n <= 99; n++) {
            once = once * 7 / 10 + none * 3 / 10;
            none = none * 7 / 10;
            check.due("safe(2, " + n + ")", x.safe(2, n), none + once);
        }
    }

    private static TamerState ring() {
        TamerState x = new TamerState();
        x.province(2, 3, 0);
        x.province(5, 4, 1);
        x.tamer(6, 1);
        x.tamer(0, 0);
        return x;
    }

    /** Draws from 5: 17860, 711868, 200394; 46264, 41384, 658762; 624653, 2537, 810650; 156613, 755968, 842550. */
    private static void decades(Check check) {
        TamerState x = ring();
        check.due("decades(5, 1)", x.decades(5, 1), 0);
        // tamer 0 cracks at province 0: 5 against 6, it jumps; a day
        check.due("drawn(0, 0)", x.drawn(0, 0), 4);
        check.due("drawn(0, 1)", x.drawn(0, 1), 3);
        check.due("drawn(1, 0)", x.drawn(1, 0), 6);
        check.due("drawn(1, 1)", x.drawn(1, 1), 3);
        check.due("drawn(0, 2)", x.drawn(0, 2), 6);
        check.due("drawn(1, 2)", x.drawn(1, 2), 5);
        check.due("drawn(0, 3)", x.drawn(0, 3), 2);
        check.due("decades(5, 2)", x.decades(5, 2), 0);
        // tamer 0 feeds province 0; a day
        check.due("drawn(0, 0)", x.drawn(0, 0), 2);
        check.due("drawn(1, 0)", x.drawn(1, 0), 7);
        check.due("drawn(0, 2)", x.drawn(0, 2), 10);
        check.due("drawn(1, 2)", x.drawn(1, 2), 10);
        check.due("decades(5, 3)", x.decades(5, 3), 0);
        // nothing; a day
        check.due("drawn(0, 0)", x.drawn(0, 0), 3);
        check.due("drawn(0, 2)", x.drawn(0, 2), 15);
        check.due("decades(5, 4)", x.decades(5, 4), 1);
        // tamer 1 cracks at province 0: 6 against 0, it bites; a day
        check.due("drawn(0, 0)", x.drawn(0, 0), 2);
        check.due("drawn(1, 0)", x.drawn(1, 0), 9);
        check.due("drawn(0, 3)", x.drawn(0, 3), 2);
        check.due("drawn(1, 3)", x.drawn(1, 3), 1);
        check.due("drawn(1, 1)", x.drawn(1, 1), 3);
        int[][] none = {{-1, 0}, {2, 0}, {2, 1}, {2, 2}, {-1, 3}, {0, 4}, {0, -1}};
        for (int[] n : none) {
            check.due("drawn NONE", x.drawn(n[0], n[1]), -1);
        }
        check.due("all is as it was", x.of(0, 0), 2);
        check.due("all is as it was", x.of(0, 1), 3);
        check.due("all is as it was", x.at(0, 1), 1);
        check.due("all is as it was", x.count(13), 0);
        check.due("all is as it was", x.count(5), 0);
        x.province(0, 0, 2);
        check.due("the latest stays", x.drawn(2, 0), -1);
        check.due("the latest stays", x.drawn(0, 0), 2);
    }

    private static void decadesThatEnd(Check check) {
        TamerState x = ring();
        x.terms(0, 997);
        check.due("decades(5, 60)", x.decades(5, 60), 0);
        check.due("two days", x.drawn(0, 2), 10);
        x.terms(0, 999);
        check.due("decades(5, 60)", x.decades(5, 60), 0);
        check.due("no day", x.drawn(0, 2), 1);
        check.due("drawn(1, 0)", x.drawn(1, 0), 5);
        TamerState y = new TamerState();
        y.province(9, 9, 0);
        y.tamer(0, 0);
        Check.forced(y, "angers 30;pays 0");
        check.due("two arms are two bites", y.decades(0, 60), 2);
        check.due("no arms are left", y.drawn(0, 3), 0);
        check.due("who has no meat feeds none", y.drawn(0, 2), 0);
        Check.forced(y, "bars;angers 30;pays 0");
        check.due("barred", y.decades(0, 60), 0);
        check.due("both arms", y.drawn(0, 3), 2);
        check.due("hunger", y.drawn(0, 0), 9);
        Check.forced(y, "bars;pays 1;hungers 0");
        check.due("fed", y.decades(0, 60), 0);
        check.due("until it is not hungry", y.drawn(0, 0), 0);
    }

    private static void refused(Check check) {
        TamerState x = new TamerState();
        check.due("-1 ahead of -3", x.decades(-1, 1), -1);
        check.due("none at all", x.decades(0, 1), -3);
        check.due("status()", x.status(), -3);
        x.province(1, 1, 1);
        check.due("no tamers", x.decades(0, 1), -3);
        x.tamer(1, 1);
        check.due("the edges", x.decades(1000000, 60), x.decades(1000000, 60));
        check.due("status()", x.status(), 0);
        int kept = x.drawn(0, 2);
        int[][] wrong = {{-1, 1}, {1000001, 1}, {0, 0}, {0, 61}, {0, -1}};
        for (int[] w : wrong) {
            check.due("decades that can't be", x.decades(w[0], w[1]), -1);
        }
        check.due("the latest that was not REFUSED", x.drawn(0, 2), kept);
        x.tamer(1, 2);
        x.decades(0, 1);
        check.holds("more tamers than provinces", x.drawn(1, 2) > 0 && x.drawn(1, 3) == 2);
        check.due("no such province", x.drawn(1, 0), -1);
        check.due("no such province", x.drawn(1, 1), -1);
        TamerState y = new TamerState();
        y.tamer(1, 1);
        check.due("no provinces", y.decades(0, 1), -3);
    }
}
