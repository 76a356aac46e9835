/** Promises 18 to 22: crack, meat, move, pass, undo. */
public final class ActsTest {
    public static void main(String[] args) {
        Check check = new Check("ActsTest");
        jumps(check);
        balks(check);
        bites(check);
        refusedCracks(check);
        feedings(check);
        moves(check);
        days(check);
        daysByLaw(check);
        undone(check);
        whatEndsUndoing(check);
        check.close();
    }

    /** Provinces on tubs 7, 0, 1 and 3, all with hunger 1. */
    private static TamerState ring(int temper, int nerve) {
        TamerState x = new TamerState();
        x.province(1, temper, 7);
        x.province(1, temper, 0);
        x.province(1, temper, 1);
        x.province(1, temper, 3);
        x.tamer(nerve, 3);
        return x;
    }

    private static void tempers(Check check, TamerState x, int a, int b, int c, int d) {
        check.due("temper 0", x.of(0, 1), a);
        check.due("temper 1", x.of(1, 1), b);
        check.due("temper 2", x.of(2, 1), c);
        check.due("temper 3", x.of(3, 1), d);
    }

    private static void jumps(Check check) {
        TamerState x = ring(1, 2);
        check.due("crack(0, 1)", x.crack(0, 1), 2);
        check.due("status()", x.status(), 0);
        tempers(check, x, 0, 1, 0, 1);
        check.due("of(1, 0)", x.of(1, 0), 2);
        check.due("of(0, 0)", x.of(0, 0), 1);
        x.terms(0, 0);
        check.due("the ring's end", x.crack(0, 0), 2);
        tempers(check, x, 0, 0, 0, 1);
        check.due("0 at least", x.crack(0, 1), 2);
        tempers(check, x, 0, 0, 0, 1);
        check.due("arms", x.at(0, 2), 2);
        TamerState y = new TamerState();
        y.province(9, 0, 4);
        y.tamer(9, 0);
        check.due("crack", y.crack(0, 0), 2);
        check.due("9 at most", y.of(0, 0), 9);
    }

    private static void balks(Check check) {
        for (int nerve = 0; nerve < 3; nerve++) {
            TamerState x = ring(2, nerve);
            check.due("crack by nerve " + nerve, x.crack(0, 1), 1);
            tempers(check, x, 3, 3, 3, 2);
            check.due("hunger as it was", x.of(1, 0), 1);
            check.due("arms", x.at(0, 2), 2);
        }
        TamerState x = ring(9, 8);
        check.due("crack", x.crack(0, 1), 1);
        tempers(check, x, 9, 9, 9, 9);
    }

    private static void bites(Check check) {
        TamerState x = ring(3, 0);
        check.due("crack", x.crack(0, 1), 0);
        check.due("a bite is not REFUSED", x.status(), 0);
        tempers(check, x, 3, 3, 3, 3);
        check.due("0 at least", x.of(1, 0), 0);
        check.due("arms", x.at(0, 2), 1);
        TamerState y = new TamerState();
        y.province(7, 9, 4);
        y.tamer(0, 0);
        check.due("crack", y.crack(0, 0), 0);
        check.due("hunger", y.of(0, 0), 5);
        check.due("crack", y.crack(0, 0), 0);
        check.due("hunger", y.of(0, 0), 3);
        check.due("arms", y.at(0, 2), 0);
        check.due("without arms", y.crack(0, 0), -3);
        check.due("status()", y.status(), -3);
        check.due("hunger", y.of(0, 0), 3);
    }

    private static void refusedCracks(Check check) {
        TamerState x = ring(3, 0);
        int[][] none = {{-1, 0}, {1, 0}, {0, -1}, {0, 4}, {Integer.MAX_VALUE, 0}, {0, Integer.MIN_VALUE}};
        for (int[] n : none) {
            check.due("crack at none", x.crack(n[0], n[1]), -2);
            check.due("meat for none", x.meat(n[0], n[1]), -2);
        }
        check.due("count(8)", x.count(8), 12);
        Check.forced(x, "bars if province = 2");
        check.due("barred", x.crack(0, 2), -3);
        check.due("not barred", x.crack(0, 1), 0);
        check.due("-2 ahead of -3", x.crack(0, 9), -2);
        check.due("count(5)", x.count(5), 1);
    }

    private static void feedings(Check check) {
        TamerState x = new TamerState();
        x.province(8, 2, 0);
        x.tamer(3, 3);
        x.tamer(3, 0);
        check.due("meat", x.meat(0, 0), 5);
        check.due("meat", x.meat(0, 0), 2);
        check.due("0 at least", x.meat(0, 0), 0);
        check.due("status()", x.status(), 0);
        check.due("memory", x.asks(0, 0, 0), 3);
        check.due("of the other", x.asks(1, 0, 0), 0);
        check.due("temper", x.of(0, 1), 2);
        check.due("no meat is left", x.meat(0, 0), -3);
        check.due("none at first", x.meat(1, 0), -3);
        check.due("status()", x.status(), -3);
        TamerState y = new TamerState();
        y.province(0, 9, 0);
        y.tamer(0, 12);
        Check.forced(y, "bars");
        for (int i = 0; i < 11; i++) {
            check.due("barred from cracks alone", y.meat(0, 0), 0);
        }
        check.due("9 at most", y.asks(0, 0, 0), 9);
        check.due("meat", y.at(0, 1), 1);
    }

    private static void moves(Check check) {
        TamerState x = ring(0, 0);
        check.due("move(0, 5)", x.move(0, 5), 7);
        check.due("move(0, 0)", x.move(0, 0), -3);
        check.due("where it is", x.move(0, 5), -3);
        check.due("move(0, 7)", x.move(0, 7), 5);
        check.due("of(0, 2)", x.of(0, 2), 7);
        check.due("-1 ahead of -2", x.move(9, 8), -1);
        check.due("move(0, -1)", x.move(0, -1), -1);
        check.due("move(4, 5)", x.move(4, 5), -2);
        check.due("-2 ahead of -3", x.move(-1, 0), -2);
        check.due("status()", x.status(), -2);
    }

    private static void days(Check check) {
        TamerState x = new TamerState();
        x.province(8, 0, 0);
        x.province(9, 0, 1);
        x.tamer(0, 93);
        x.tamer(0, 95);
        check.due("pass()", x.pass(), 1);
        check.due("hungers", x.of(0, 0), 9);
        check.due("9 at most", x.of(1, 0), 9);
        check.due("paid", x.at(0, 1), 98);
        check.due("99 at most", x.at(1, 1), 99);
        x.terms(0, 998);
        check.due("pass()", x.pass(), 999);
        check.due("at 999", x.pass(), -3);
        check.due("count(13)", x.count(13), 999);
        check.due("status()", x.status(), -3);
        check.due("undo()", x.undo(), 3);
        check.due("count(13)", x.count(13), 998);
    }

    private static void daysByLaw(Check check) {
        TamerState x = new TamerState();
        x.province(2, 0, 0);
        x.province(3, 0, 1);
        x.tamer(4, 10);
        x.tamer(4, 20);
        Check.forced(x, "hungers hunger if day = 0;hungers 7 if day = 1;pays meat + day if day < 2");
        check.due("pass()", x.pass(), 1);
        check.due("as it was ahead", x.of(0, 0), 4);
        check.due("as it was ahead", x.of(1, 0), 6);
        check.due("as it was ahead", x.at(0, 1), 20);
        check.due("as it was ahead", x.at(1, 1), 40);
        check.due("pass()", x.pass(), 2);
        check.due("of(0, 0)", x.of(0, 0), 9);
        check.due("at(0, 1)", x.at(0, 1), 41);
        check.due("at(1, 1)", x.at(1, 1), 81);
        check.due("pass()", x.pass(), 3);
        check.due("at(0, 1)", x.at(0, 1), 46);
    }

    private static void undone(Check check) {
        TamerState x = ring(2, 2);
        x.tamer(0, 1);
        x.feud(0, 1, 1);
        x.crack(0, 1);
        x.meat(1, 2);
        x.move(3, 4);
        x.pass();
        x.crack(1, 0);
        Check.forced(x, "pays 50");
        x.feud(0, 2, 1);
        x.done(0, 0, 0, 0);
        check.due("count(5)", x.count(5), 5);
        check.due("a crack", x.undo(), 0);
        check.due("status()", x.status(), 0);
        check.due("a day", x.undo(), 3);
        check.due("count(13)", x.count(13), 0);
        check.due("at(0, 1)", x.at(0, 1), 3);
        check.due("a move", x.undo(), 2);
        check.due("of(3, 2)", x.of(3, 2), 3);
        check.due("a feeding", x.undo(), 1);
        check.due("at(1, 1)", x.at(1, 1), 1);
        check.due("of(2, 0)", x.of(2, 0), 1);
        check.due("asks(1, 2, 0)", x.asks(1, 2, 0), 0);
        check.due("a crack", x.undo(), 0);
        tempers(check, x, 2, 2, 2, 2);
        check.due("no more", x.undo(), -3);
        check.due("status()", x.status(), -3);
        check.due("feuds stay", x.of(0, 4), 6);
        check.due("the law stays in force", x.count(12), 0);
        check.due("DONE stays", x.count(3), 1);
        for (int i = 0; i < 20; i++) {
            x.pass();
        }
        check.due("16 are kept", x.count(5), 16);
        for (int i = 0; i < 16; i++) {
            check.due("undo()", x.undo(), 3);
        }
        check.due("no more", x.undo(), -3);
        check.due("count(13)", x.count(13), 4);
        check.due("pass()", x.pass(), 5);
        check.due("undo()", x.undo(), 3);
    }

    private static void whatEndsUndoing(Check check) {
        TamerState x = ring(2, 2);
        x.pass();
        check.due("REFUSED ones do not", x.province(0, 0, 0) + x.tamer(21, 0) + x.terms(3, 0) + x.row(), -3 - 1 - 1 - 6);
        check.due("count(5)", x.count(5), 1);
        x.force(-1);
        x.forget();
        x.image(0);
        x.decades(1, 1);
        Check.law(x, "bars");
        check.due("nor others", x.count(5), 1);
        x.province(0, 0, 5);
        check.due("a province", x.count(5), 0);
        check.due("undo()", x.undo(), -3);
        x.pass();
        x.tamer(0, 0);
        check.due("a tamer", x.count(5), 0);
        x.pass();
        x.terms(1, 1);
        check.due("a term", x.count(5), 0);
        x.pass();
        Check.writeBytes(x, new byte[] {0, 0, 6});
        x.row();
        check.due("a row", x.count(5), 0);
        x.pass();
        x.back(0);
        check.due("going back", x.count(5), 0);
        x.pass();
        check.due("an act behind it", x.count(5), 1);
    }
}
