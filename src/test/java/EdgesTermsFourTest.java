/** "Terms" IV: decades by draws, rows and their saucers, images, at their bounds. */
public final class EdgesTermsFourTest {
    private static final String PART = "Terms IV";

    public static void main(String[] args) {
        Check check = new Check("EdgesTermsFourTest");
        seeds(check);
        lengths(check);
        onPaper(check);
        draws(check);
        drawsAroundTheModulus(check);
        lastDay(check);
        threeWays(check);
        ifItCan(check);
        rows(check);
        saucersThatCannotBe(check);
        saucersAtTheEnd(check);
        saucersWithoutRoom(check);
        images(check);
        imagesOfLaws(check);
        imagesDoNotKeep(check);
        nothingToUndo(check);
        imagesStay(check);
        check.close();
    }

    private static TamerState forced(TamerState x, String law) {
        Check.forced(x, law);
        return x;
    }

    private static void seeds(Check check) {
        check.of(PART, "s is the SEED (0 .. 1,000,000)");
        TamerState x = Ring.of("0 0 0", "0 0");
        check.due("-1", x.decades(-1, 1), -1);
        check.due("1,000,001", x.decades(1000001, 1), -1);
        check.due("0", x.decades(0, 1), 0);
        check.due("1,000,000", x.decades(1000000, 1), 0);
        check.due("status()", x.status(), 0);
    }

    private static void lengths(Check check) {
        check.of(PART, "n 1 .. 60");
        TamerState x = forced(Ring.of("0 0 0", "0 0"), "pays 1;bars");
        check.due("0", x.decades(0, 0), -1);
        check.due("-1", x.decades(0, -1), -1);
        check.due("61", x.decades(0, 61), -1);
        check.due("1", x.decades(0, 1), 0);
        check.due("one day's pay", x.drawn(0, 2), 1);
        forced(x, "pays 1 if day>58;pays 0 if day<59;bars");
        check.due("59", x.decades(0, 59), 0);
        check.due("no pay on the days 0 .. 58", x.drawn(0, 2), 0);
        check.due("60", x.decades(0, 60), 0);
        check.due("pay on day 59", x.drawn(0, 2), 1);
    }

    private static void onPaper(Check check) {
        check.of(PART, "DECADES with a SEED, n 1 .. 60, on paper");
        TamerState x = Ring.of("9 9 0, 3 3 1", "0 9, 5 5");
        x.pass();
        String ahead = Ring.kept(x);
        x.decades(7, 60);
        check.same("all as it was", Ring.kept(x), ahead);
        check.due("what can be undone", x.count(5), 1);
    }

    /** From 0: 12345, 628841, 621889; 953857, 113460, 158350. By 2 tamers, 3 provinces, 3: 1, 2, 1; 1, 0, 1. */
    private static void draws(Check check) {
        check.of(PART, "a DRAW of m: s becomes (s times 1103 and 12345) modulo 1,000,003, it is s modulo m");
        TamerState x = Ring.of("5 0 0, 5 0 1, 5 0 2", "0 9, 0 9");
        x.decades(0, 1);
        check.row("1 feeds 2", new int[] {x.drawn(0, 0), x.drawn(1, 0), x.drawn(2, 0), x.drawn(0, 2), x.drawn(1, 2)},
            6, 6, 3, 14, 13);
        x.decades(0, 2);
        check.row("1 feeds 0", new int[] {x.drawn(0, 0), x.drawn(1, 0), x.drawn(2, 0), x.drawn(0, 2), x.drawn(1, 2)},
            4, 7, 4, 19, 17);
    }

    /** From 870345: 0, 12345, 628841; from 327279: 1000002, 11242, 412235. */
    private static void drawsAroundTheModulus(Check check) {
        check.of(PART, "modulo 1,000,003");
        TamerState x = Ring.of("9 9 0, 9 9 1", "0 9, 0 9, 0 9, 0 9");
        check.due("a draw that is 0: tamer 0, province 1, nothing", x.decades(870345, 1), 0);
        check.row("arms", new int[] {x.drawn(0, 3), x.drawn(1, 3), x.drawn(2, 3), x.drawn(3, 3)}, 2, 2, 2, 2);
        check.row("meat", new int[] {x.drawn(0, 2), x.drawn(1, 2), x.drawn(2, 2), x.drawn(3, 2)}, 14, 14, 14, 14);
        check.due("a draw that is 1,000,002: tamer 2, province 0, nothing", x.decades(327279, 1), 0);
        TamerState y = Ring.of("9 9 0, 9 9 1", "0 9, 0 9, 0 9, 0 9");
        // behind it 706188, 935375, 727877: tamer 0, province 1, nothing; then 858270, 681317, 502743: tamer 2, 1, a crack
        check.due("two days without a bite", y.decades(327279, 2), 0);
        check.due("the third with one", y.decades(327279, 3), 1);
        check.row("of tamer 2", new int[] {y.drawn(0, 3), y.drawn(1, 3), y.drawn(2, 3), y.drawn(3, 3)}, 2, 2, 1, 2);
        check.row("by province 1", new int[] {y.drawn(0, 0), y.drawn(1, 0)}, 9, 8);
    }

    private static void lastDay(Check check) {
        check.of(PART, "Each time (at DAY 999 it ends)");
        TamerState x = forced(Ring.of("0 0 0", "0 0"), "pays 1;bars;hungers 0");
        x.terms(0, 997);
        x.decades(1, 60);
        check.due("two days from 997", x.drawn(0, 2), 2);
        x.terms(0, 998);
        x.decades(1, 60);
        check.due("one day from 998", x.drawn(0, 2), 1);
        x.terms(0, 999);
        check.due("from 999", x.decades(1, 60), 0);
        check.due("it is not REFUSED", x.status(), 0);
        check.due("none from 999", x.drawn(0, 2), 0);
        forced(x, "pays 1 if day=998;pays 0 if day<998;bars");
        x.terms(0, 938);
        x.decades(1, 60);
        check.due("sixty from 938: to 997", x.drawn(0, 2), 0);
        x.terms(0, 939);
        x.decades(1, 60);
        check.due("sixty from 939: to 998", x.drawn(0, 2), 1);
    }

    /** From 5, by 1 and 1: 200394 (0), 658762 (1), 810650 (2), 842550 (0) are the third draws. */
    private static void threeWays(Check check) {
        check.of(PART, "at 0 that TAMER cracks at that PROVINCE, at 1 it FEEDS it, if it can, at 2 nothing; then the DAY passes");
        TamerState x = Ring.of("3 9 0", "0 9");
        check.due("a crack", x.decades(5, 1), 1);
        check.row("bitten, a day", new int[] {x.drawn(0, 0), x.drawn(0, 1), x.drawn(0, 2), x.drawn(0, 3)}, 2, 9, 14, 1);
        check.due("a feeding", x.decades(5, 2), 1);
        check.row("fed, a day", new int[] {x.drawn(0, 0), x.drawn(0, 1), x.drawn(0, 2), x.drawn(0, 3)}, 1, 9, 18, 1);
        check.due("nothing", x.decades(5, 3), 1);
        check.row("a day", new int[] {x.drawn(0, 0), x.drawn(0, 1), x.drawn(0, 2), x.drawn(0, 3)}, 2, 9, 23, 1);
        check.due("a crack", x.decades(5, 4), 2);
        check.row("bitten, a day", new int[] {x.drawn(0, 0), x.drawn(0, 1), x.drawn(0, 2), x.drawn(0, 3)}, 1, 9, 28, 0);
    }

    private static void ifItCan(Check check) {
        check.of(PART, "if it can");
        TamerState x = forced(Ring.of("9 9 0", "0 0"), "angers 30;pays 0;hungers 0");
        check.due("two arms", x.decades(5, 60), 2);
        check.due("no arm is left", x.drawn(0, 3), 0);
        check.due("no meat, no feeding", x.drawn(0, 0), 5);
        forced(x, "bars;angers 30;pays 0;hungers 0");
        check.due("barred", x.decades(5, 60), 0);
        check.row("as it was", new int[] {x.drawn(0, 0), x.drawn(0, 2), x.drawn(0, 3)}, 9, 0, 2);
        TamerState y = forced(Ring.of("9 9 0", "0 1"), "bars;pays 0;hungers 0");
        y.decades(5, 60);
        check.row("one feeding", new int[] {y.drawn(0, 0), y.drawn(0, 2)}, 6, 0);
    }

    private static void rows(Check check) {
        check.of(PART, "A ROW: the TAPE's bytes by threes: HUNGER, TEMPER, TUB: a PROVINCE");
        TamerState x = new TamerState();
        Check.writeBytes(x, new byte[] {1, 2, 3, 9, 0, 7, 0, 9, 0});
        check.due("three", x.row(), 3);
        check.due("saucers", x.saucers(), 0);
        check.row("hunger", Ring.hungers(x), 1, 9, 0);
        check.row("temper", Ring.tempers(x), 2, 0, 9);
        check.row("tub", Ring.tubs(x), 3, 7, 0);
    }

    private static void saucersThatCannotBe(Check check) {
        check.of(PART, "one that can't be (a TUB that is taken, too)");
        byte[][] saucers = {{10, 0, 0}, {0, 10, 0}, {0, 0, 8}, {(byte) 128, 0, 0}, {0, (byte) 255, 0}, {0, 0, (byte) 255},
            {0, 0, 4}};
        for (byte[] saucer : saucers) {
            TamerState x = Ring.of("1 1 4", "");
            Check.writeBytes(x, saucer);
            check.due("a saucer comes", x.row(), 0);
            check.due("saucers", x.saucers(), 1);
            check.due("provinces", x.count(0), 1);
        }
        TamerState x = new TamerState();
        Check.writeBytes(x, new byte[] {1, 1, 1, 2, 2, 1, 3, 3, 2});
        check.due("a tub taken by one of the row", x.row(), 2);
        check.due("saucers", x.saucers(), 1);
        check.row("hunger", Ring.hungers(x), 1, 3);
    }

    private static void saucersAtTheEnd(Check check) {
        check.of(PART, "one within which the TAPE ends");
        byte[] bytes = {1, 1, 1, 2, 2, 2};
        int[] came = {-6, 0, 0, 1, 1, 1, 2};
        int[] saucers = {0, 1, 1, 0, 1, 1, 0};
        for (int n = 0; n <= 6; n++) {
            TamerState x = new TamerState();
            Check.writeBytes(x, bytes);
            x.end(n);
            check.due("of " + n + " bytes", x.row(), came[n]);
            check.due("saucers of " + n + " bytes", x.saucers(), saucers[n]);
        }
        TamerState x = new TamerState();
        for (int n = 0; n < 20; n++) {
            x.feed(-1, -1, -1, -1, -1);
        }
        check.due("of 400 bytes", x.row(), 0);
        check.due("133 and one within which it ends", x.saucers(), 134);
    }

    private static void saucersWithoutRoom(Check check) {
        check.of(PART, "one for which there is no room is a SAUCER: none");
        TamerState x = Ring.of("9 9 7", "");
        Check.writeBytes(x, new byte[] {0, 0, 0, 0, 0, 1, 0, 0, 2, 0, 0, 3, 0, 0, 4, 0, 0, 5});
        check.due("five more", x.row(), 5);
        check.due("the sixth of the row", x.saucers(), 1);
        check.due("provinces", x.count(0), 6);
        Check.writeBytes(x, new byte[] {0, 0, 5});
        check.due("not one more", x.row(), 0);
        check.due("it is not REFUSED", x.status(), 0);
        check.due("saucers", x.saucers(), 1);
    }

    private static void images(Check check) {
        check.of(PART, "IMAGES 0, 1 keep all but");
        TamerState x = Ring.of("1 2 3, 4 5 6", "7 8, 9 10");
        check.due("image(-1)", x.image(-1), -1);
        check.due("image(2)", x.image(2), -1);
        x.feud(0, 1, 1);
        x.done(1, 0, 0, 2);
        x.done(1, 0, 1, 2);
        x.meat(1, 1);
        forced(x, "hungers 3");
        check.due("image(0)", x.image(0), 0);
        String first = Ring.kept(x);
        x.terms(0, 5);
        x.terms(1, 6);
        x.terms(2, 7);
        x.province(0, 0, 0);
        x.tamer(0, 0);
        x.feud(0, 2, 1);
        x.forget();
        x.done(2, 2, 2, 0);
        x.done(3, 0, 0, 0);
        x.crack(0, 1);
        forced(x, "pays 2");
        check.due("image(1)", x.image(1), 0);
        String second = Ring.kept(x);
        check.due("back(0)", x.back(0), 0);
        check.same("the first", Ring.kept(x), first);
        check.due("another law 1", Check.forced(x, "pays 9;hungers 9"), 1);
        check.due("back(1)", x.back(1), 0);
        check.same("the second", Ring.kept(x), second);
    }

    private static void imagesOfLaws(Check check) {
        check.of(PART, "BACK to one all that it keeps is as it was then");
        TamerState x = Ring.of("0 0 0", "0 0");
        x.image(0);
        forced(x, "hungers 4");
        x.image(1);
        x.back(0);
        check.row("no law", new int[] {x.count(4), x.count(12), x.of(0, 3)}, 0, -1, 1);
        forced(x, "hungers 5");
        check.row("another law 0", new int[] {x.count(4), x.count(12), x.of(0, 3)}, 1, 0, 5);
        x.back(1);
        check.row("law 0 as it was then", new int[] {x.count(4), x.count(12), x.of(0, 3)}, 1, 0, 4);
    }

    private static void imagesDoNotKeep(Check check) {
        check.of(PART, "the TAPE, FAULT, SAUCERS, where ORDERS stopped");
        TamerState x = Ring.of("1 1 1", "2 2");
        x.image(0);
        Check.writeBytes(x, new byte[] {1, 1});
        x.row();
        Check.orders(x, "pass;crack 9 at 9");
        Check.law(x, "bars ?");
        x.feed(0, 0, 0, 0, 0);
        x.decades(0, 1);
        int refused = x.count(11);
        x.back(0);
        check.due("tape", x.count(6), 20);
        check.due("fault", x.fault(), 5);
        check.due("saucers", x.saucers(), 1);
        check.due("stopped", x.stopped(), 1);
        check.due("decades", x.drawn(0, 0), 1);
        check.due("refused", x.count(11), refused);
        check.due("status is of back()", x.status(), 0);
    }

    private static void nothingToUndo(Check check) {
        check.of(PART, "what can be undone (nothing, behind back())");
        TamerState x = Ring.of("1 1 1", "2 2");
        x.pass();
        x.image(0);
        check.due("an image leaves it", x.count(5), 1);
        x.pass();
        check.due("two", x.count(5), 2);
        x.back(0);
        check.due("nothing", x.count(5), 0);
        check.due("nothing", x.undo(), -3);
        x.pass();
        check.due("one", x.count(5), 1);
        x.back(1);
        check.due("a REFUSED back() leaves it", x.count(5), 1);
    }

    private static void imagesStay(Check check) {
        check.of(PART, "BACK to one all that it keeps is as it was then (IMAGES stay)");
        TamerState x = new TamerState();
        x.image(0);
        x.pass();
        x.image(1);
        x.pass();
        for (int n = 0; n < 2; n++) {
            check.due("back(0)", x.back(0), 0);
            check.due("day 0", x.count(13), 0);
            x.pass();
            x.pass();
            check.due("back(1)", x.back(1), 0);
            check.due("day 1", x.count(13), 1);
            x.pass();
        }
        x.image(0);
        x.back(1);
        check.due("1 as it was", x.count(13), 1);
        x.back(0);
        check.due("0 kept anew", x.count(13), 2);
    }
}
