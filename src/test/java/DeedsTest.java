/** Promises 26 to 30: done, forget, one, tempers, ask. */
public final class DeedsTest {
    public static void main(String[] args) {
        Check check = new Check("DeedsTest");
        done(check);
        ones(check);
        tempers(check);
        asked(check);
        check.close();
    }

    private static TamerState ring() {
        TamerState x = new TamerState();
        x.province(0, 0, 0);
        x.province(2, 5, 1);
        x.province(4, 9, 2);
        x.province(0, 0, 3);
        x.tamer(5, 0);
        x.tamer(0, 9);
        return x;
    }

    private static void done(Check check) {
        TamerState x = ring();
        x.crack(0, 0);
        check.due("a crack tells nothing", x.count(3), 0);
        int[][] wrong = {{-1, 0, 0, 0}, {100, 0, 0, 0}, {0, 0, 0, -1}, {0, 0, 0, 3}, {100, 9, 9, 0}};
        for (int[] w : wrong) {
            check.due("done that can't be", x.done(w[0], w[1], w[2], w[3]), -1);
        }
        int[][] none = {{0, 2, 0, 0}, {0, -1, 0, 0}, {0, 0, 4, 0}, {0, 0, -1, 0}};
        for (int[] n : none) {
            check.due("done by none", x.done(n[0], n[1], n[2], n[3]), -2);
        }
        for (int n = 1; n <= 10; n++) {
            check.due("done " + n, x.done(n % 2 * 99, 0, 0, n % 3), n);
        }
        check.due("no room", x.done(0, 0, 0, 0), -5);
        check.due("-1 ahead of -5", x.done(0, 0, 0, 3), -1);
        check.due("-2 ahead of -5", x.done(0, 0, 4, 0), -2);
        check.due("count(3)", x.count(3), 10);
        check.due("forget()", x.forget(), 10);
        check.due("forget()", x.forget(), 0);
        check.due("count(3)", x.count(3), 0);
        check.due("status() is not of forget()", x.status(), -2);
        check.due("done", x.done(0, 0, 0, 0), 1);
        check.due("status()", x.status(), 0);
    }

    private static void ones(Check check) {
        TamerState x = ring();
        check.due("no twos", x.one(-1), 0);
        check.due("no first", x.one(0), -1);
        x.done(3, 0, 2, 1);
        x.done(3, 0, 0, 1);
        x.done(3, 1, 1, 1);
        x.done(4, 0, 1, 1);
        check.due("by day and tamer", x.one(-1), 1);
        check.due("0 and 2", x.one(0), 2);
        x.done(3, 0, 3, 1);
        check.due("three of them", x.one(-1), 3);
        check.due("0 and 2", x.one(0), 2);
        check.due("0 and 3", x.one(1), 3);
        check.due("2 and 3", x.one(2), 23);
        check.due("no more", x.one(3), -1);
        check.due("i -2", x.one(-2), -1);
        x.done(5, 1, 0, 2);
        x.done(5, 1, 3, 0);
        check.due("once unlike", x.one(-1), 2);
        check.due("0 and 2", x.one(0), 2);
        check.due("2 and 3", x.one(1), 23);
        x.done(3, 0, 2, 0);
        check.due("twice on a day, unlike", x.one(-1), 0);
        x.forget();
        check.due("nothing is told", x.one(-1), 0);
    }

    private static void tempers(Check check) {
        TamerState x = ring();
        check.due("nothing is told", x.tempers(1), 1023);
        // hunger 2, nerve 5: it jumps by 0 .. 3, balks by 4 .. 6, bites by 7 .. 9
        x.done(0, 0, 1, 1);
        check.due("it balked", x.tempers(1), 16 + 32 + 64);
        x.done(50, 0, 1, 1);
        check.due("day aside", x.tempers(1), 16 + 32 + 64);
        check.due("of another", x.tempers(0), 1023);
        // nerve 0: it bites by 2 .. 9
        x.done(0, 1, 1, 0);
        check.due("and bit", x.tempers(1), 16 + 32 + 64);
        x.done(0, 1, 1, 1);
        check.due("both by one tamer", x.tempers(1), 0);
        x.forget();
        x.done(0, 0, 1, 2);
        check.due("it jumped", x.tempers(1), 15);
        // hunger 0, memory 1 of tamer 1 alone
        x.meat(1, 1);
        check.due("as now", x.tempers(1), 63);
        x.done(0, 1, 1, 1);
        check.due("by memory now", x.tempers(1), 4 + 8 + 16);
        Check.forced(x, "bars;angers temper * 2");
        check.due("by law, barred aside", x.tempers(1), 2);
        check.due("no province", x.tempers(4), -1);
        check.due("no province", x.tempers(-1), -1);
        check.due("its own temper is aside", x.of(1, 1), 5);
    }

    private static void asked(Check check) {
        TamerState x = ring();
        // hunger 2: by nerve 5 they are 4, 3, 3; by nerve 0 they jump by none, balk by 2, bite by 8
        check.due("ask(1, 0)", x.ask(1, 0), 0);
        check.due("ask(1, 1)", x.ask(1, 1), 4);
        x.done(0, 0, 1, 2);
        // 0 .. 3 are left: by nerve 5 alike, by nerve 0 two balk and two bite
        check.due("the other", x.ask(1, 0), 1);
        check.due("two are left", x.ask(1, 1), 2);
        x.done(0, 0, 1, 1);
        check.due("no tempers", x.ask(1, 0), -1);
        check.due("no tempers", x.ask(1, 1), -1);
        x.forget();
        check.due("what 2", x.ask(1, 2), -1);
        check.due("what -1", x.ask(1, -1), -1);
        check.due("no province", x.ask(4, 0), -1);
        Check.forced(x, "angers 3;bars");
        check.due("both alike: the lowest", x.ask(1, 0), 0);
        check.due("ten", x.ask(1, 1), 10);
        TamerState y = new TamerState();
        y.province(0, 0, 0);
        check.due("no tamers", y.ask(0, 0), -1);
        check.due("no tamers", y.ask(0, 1), -1);
        check.due("tempers without tamers", y.tempers(0), 1023);
    }
}
