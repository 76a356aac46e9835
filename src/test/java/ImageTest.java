/** Promises 38 to 41: image, back, count, status. */
public final class ImageTest {
    public static void main(String[] args) {
        Check check = new Check("ImageTest");
        images(check);
        whatIsNotKept(check);
        deedsOfImages(check);
        lawsOfImages(check);
        counts(check);
        statuses(check);
        check.close();
    }

    private static void images(Check check) {
        TamerState x = new TamerState();
        check.due("image(2)", x.image(2), -1);
        check.due("image(-1)", x.image(-1), -1);
        check.due("back(2)", x.back(2), -1);
        check.due("back(-1)", x.back(-1), -1);
        check.due("back(0)", x.back(0), -2);
        check.due("image(0)", x.image(0), 0);
        check.due("back(1)", x.back(1), -2);
        check.due("status()", x.status(), -2);
        x.province(4, 5, 6);
        x.province(1, 1, 1);
        x.tamer(7, 8);
        x.feud(0, 1, 1);
        x.meat(0, 0);
        x.terms(0, 9);
        x.terms(1, 8);
        x.terms(2, 7);
        x.done(1, 0, 1, 2);
        Check.forced(x, "hungers 6");
        check.due("image(1)", x.image(1), 0);
        check.due("status()", x.status(), 0);
        check.due("back(0)", x.back(0), 0);
        int[] empty = {0, 0, 0, 0, 0, 0, 0};
        for (int what = 0; what < empty.length; what++) {
            check.due("count(" + what + ")", x.count(what), empty[what]);
        }
        check.due("count(12)", x.count(12), -1);
        check.due("count(13)", x.count(13), 0);
        check.due("count(14)", x.count(14), 1);
        check.due("count(15)", x.count(15), 0);
        x.province(0, 0, 0);
        x.province(0, 0, 7);
        x.tamer(0, 0);
        check.due("a new one has no memory", x.asks(0, 0, 0), 0);
        check.due("a new one has no feud", x.of(0, 4), 0);
        for (int twice = 0; twice < 2; twice++) {
            check.due("back(1)", x.back(1), 0);
            check.due("of(0, 0)", x.of(0, 0), 1);
            check.due("of(0, 1)", x.of(0, 1), 5);
            check.due("of(0, 2)", x.of(0, 2), 6);
            check.due("of(0, 3)", x.of(0, 3), 6);
            check.due("of(0, 4)", x.of(0, 4), 2);
            check.due("at(0, 0)", x.at(0, 0), 7);
            check.due("at(0, 1)", x.at(0, 1), 7);
            check.due("asks(0, 0, 0)", x.asks(0, 0, 0), 1);
            check.due("count(3)", x.count(3), 1);
            check.due("count(4)", x.count(4), 1);
            check.due("count(13)", x.count(13), 9);
            check.due("count(14)", x.count(14), 8);
            check.due("count(15)", x.count(15), 7);
            x.crack(0, 0);
            x.pass();
            x.forget();
            x.feud(0, 1, 0);
            x.force(-1);
        }
        x.image(1);
        x.pass();
        x.back(1);
        check.due("kept anew", x.count(13), 10);
    }

    private static void whatIsNotKept(Check check) {
        TamerState x = new TamerState();
        x.province(1, 1, 1);
        x.tamer(1, 20);
        x.image(0);
        x.decades(1, 1);
        int drawn = x.drawn(0, 2);
        Check.orders(x, "pass;crack 9 at 9");
        Check.law(x, "bars 1");
        Check.writeBytes(x, new byte[] {99, 1, 1, 0, 0, 7, 4});
        x.row();
        x.pass();
        x.feed(1, 2, 3, 4, 5);
        check.due("back(0)", x.back(0), 0);
        check.due("count(0)", x.count(0), 1);
        check.due("the tape", x.count(6), 20);
        check.due("fault()", x.fault(), 5);
        check.due("stopped()", x.stopped(), 1);
        check.due("saucers()", x.saucers(), 2);
        check.due("decades", x.drawn(0, 2), drawn);
        check.due("nothing can be undone", x.undo(), -3);
        check.due("count(9)", x.count(9), 2);
        check.due("count(11)", x.count(11), 1);
        x.image(1);
        x.pass();
        check.due("an image takes nothing from undoing", x.undo(), 3);
    }

    private static void deedsOfImages(Check check) {
        TamerState x = new TamerState();
        x.province(0, 0, 0);
        x.province(0, 0, 1);
        x.tamer(3, 0);
        x.done(1, 0, 0, 2);
        x.done(1, 0, 1, 2);
        x.image(0);
        x.forget();
        x.done(1, 0, 1, 0);
        x.done(2, 0, 1, 1);
        check.due("one(-1)", x.one(-1), 0);
        x.back(0);
        check.due("one(-1)", x.one(-1), 1);
        check.due("tempers(0)", x.tempers(0), 15);
        check.due("tempers(1)", x.tempers(1), 15);
    }

    private static void lawsOfImages(Check check) {
        TamerState x = new TamerState();
        x.province(0, 0, 0);
        Check.law(x, "hungers 1");
        x.image(0);
        Check.forced(x, "hungers 2");
        x.image(1);
        x.back(0);
        check.due("count(4)", x.count(4), 1);
        check.due("law 1 anew", Check.forced(x, "hungers 3"), 1);
        check.due("of(0, 3)", x.of(0, 3), 3);
        x.back(1);
        check.due("in force", x.count(12), 1);
        check.due("law 1 as it was", x.of(0, 3), 2);
        TamerState y = new TamerState();
        y.province(0, 0, 0);
        y.image(0);
        Check.forced(y, "hungers 4");
        y.image(1);
        y.back(0);
        Check.forced(y, "hungers 5");
        y.back(1);
        check.due("law 0 as it was", y.of(0, 3), 4);
    }

    private static void counts(Check check) {
        TamerState x = new TamerState();
        x.province(1, 1, 1);
        x.tamer(1, 1);
        x.tamer(20, 1);
        Check.forced(x, "angers 19");
        x.crack(0, 0);
        x.done(1, 1, 0, 2);
        x.feed(0, 0, 0, 0, 0);
        x.terms(1, 2);
        x.pass();
        int[] want = {1, 2, 3, 1, 1, 1, 20, 0, 0, 0, 0, 0, 0, 1, 2, 0};
        for (int what = 0; what < want.length; what++) {
            check.due("count(" + what + ")", x.count(what), want[what]);
        }
        int[] none = {-1, 16, 17, Integer.MAX_VALUE, Integer.MIN_VALUE};
        for (int what : none) {
            check.due("count(" + what + ")", x.count(what), -1);
        }
    }

    private static void statuses(Check check) {
        TamerState x = new TamerState();
        int[] by = {-1, -2, -3, -5, -6};
        int[] times = new int[5];
        x.end(0);
        int[] refused = {x.province(-1, 0, 0), x.tamer(-1, 0), x.feud(0, 0, 0), x.terms(9, 9), x.row(), x.law(), x.orders(),
            x.force(0), x.crack(0, 0), x.meat(0, 0), x.move(0, 0), x.undo(), x.done(-1, 0, 0, 0), x.decades(-1, 0),
            x.image(2), x.back(0)};
        int[] want = {-1, -1, -1, -1, -6, -6, -6, -2, -2, -2, -2, -3, -1, -1, -1, -2};
        for (int i = 0; i < want.length; i++) {
            check.due("refused " + i, refused[i], want[i]);
            for (int b = 0; b < by.length; b++) {
                times[b] += by[b] == want[i] ? 1 : 0;
            }
        }
        check.due("status()", x.status(), -2);
        for (int b = 0; b < by.length; b++) {
            check.due("count(" + (7 + b) + ")", x.count(7 + b), times[b]);
        }
        x.of(9, 9);
        x.at(9, 9);
        x.asks(9, 9, 9);
        x.feed(0, 0, 0, 0, 0);
        x.end(99);
        x.saucers();
        x.fault();
        x.stopped();
        x.show(9, 9, 9);
        x.least(9, 9);
        x.seats(9);
        x.forget();
        x.one(9);
        x.tempers(9);
        x.ask(9, 9);
        x.governed(9);
        x.calmest(9);
        x.cubs(9, 9, 9);
        x.safe(99, 999);
        x.compare(9, 9);
        x.drawn(9, 9);
        x.count(99);
        check.due("none of these is REFUSED", x.status(), -2);
        check.due("count(7)", x.count(7), times[0]);
        check.due("pass()", x.pass(), 1);
        check.due("status()", x.status(), 0);
    }
}
