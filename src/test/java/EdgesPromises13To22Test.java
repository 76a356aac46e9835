/** Promises 13 to 22, texts and acts: what each call is refused by, and where it answers NONE. */
public final class EdgesPromises13To22Test {
    public static void main(String[] args) {
        Check check = new Check("EdgesPromises13To22Test");
        law(check);
        lawWithoutRoom(check);
        lawOfBlanks(check);
        orders(check);
        ordersWrong(check);
        fault(check);
        stopped(check);
        force(check);
        crack(check);
        meat(check);
        move(check);
        pass(check);
        undo(check);
        undoAtMost(check);
        undoAhead(check);
        check.close();
    }

    private static void law(Check check) {
        check.of("Promise 13", "The TAPE, which is empty then, becomes a LAW: its number.");
        TamerState x = new TamerState();
        check.due("the first", Check.law(x, "bars"), 0);
        check.due("the tape", x.count(6), 0);
        check.due("the second", Check.law(x, "bars"), 1);
        check.due("a wrong one", Check.law(x, "bar"), -6);
        check.due("the tape", x.count(6), 0);
        check.due("it took no number", Check.law(x, "bars"), 2);
        check.due("status()", x.status(), 0);
    }

    private static void lawWithoutRoom(Check check) {
        check.of("Promise 13", "-5 (ahead of reading it; the TAPE is empty then, too)");
        TamerState x = new TamerState();
        for (int n = 0; n < 6; n++) {
            check.due("law " + n, Check.law(x, "bars"), n);
        }
        check.due("fault() of the sixth", x.fault(), -1);
        check.due("a seventh", Check.law(x, "bars"), -5);
        check.due("the tape", x.count(6), 0);
        check.due("a wrong seventh", Check.law(x, "bars ?"), -5);
        check.due("it was not read", x.fault(), -1);
        check.due("the tape", x.count(6), 0);
        check.due("none at all", x.law(), -5);
        check.due("orders find room", Check.orders(x, "pass"), 1);
        x.image(0);
        check.due("laws that an image keeps are full, too", Check.law(x, "bars"), -5);
    }

    private static void lawOfBlanks(Check check) {
        check.of("Promise 13", "-6 (blanks alone: FAULT at the end)");
        int[] lengths = {0, 1, 19, 20, 399, 400};
        for (int length : lengths) {
            TamerState x = new TamerState();
            check.due(length + " blanks", Check.law(x, " ".repeat(length)), -6);
            check.due("fault()", x.fault(), length);
            check.due("the tape", x.count(6), 0);
        }
    }

    private static void orders(Check check) {
        check.of("Promise 14", "ORDERS, the TAPE is empty then: how many were run. -3 one can't be");
        TamerState x = new TamerState();
        check.due("none", Check.orders(x, "pass if 1=2"), 0);
        check.due("status()", x.status(), 0);
        check.due("one", Check.orders(x, "pass"), 1);
        check.due("three", Check.orders(x, "pass times 3"), 3);
        check.due("the tape", x.count(6), 0);
        check.due("one can't be", Check.orders(x, "pass;move 0 to 0"), -3);
        check.due("the tape", x.count(6), 0);
        check.due("status()", x.status(), -3);
        check.due("it counts once", x.count(9), 1);
        check.due("what it was refused by inside counts nowhere", x.count(8), 0);
    }

    private static void ordersWrong(Check check) {
        check.of("Promise 14", "-6 (as for law())");
        int[] lengths = {0, 1, 400};
        for (int length : lengths) {
            TamerState x = new TamerState();
            check.due(length + " blanks", Check.orders(x, " ".repeat(length)), -6);
            check.due("fault()", x.fault(), length);
            check.due("the tape", x.count(6), 0);
            check.due("status()", x.status(), -6);
        }
        TamerState x = new TamerState();
        check.due("right ones with a wrong end", Check.orders(x, "pass;pass;"), -6);
        check.due("none was run", x.count(13), 0);
    }

    private static void fault(Check check) {
        check.of("Promise 15", "FAULT of the latest law(), orders() that read a TEXT: its place; NONE without.");
        TamerState x = new TamerState();
        check.due("ahead of any", x.fault(), -1);
        Check.law(x, "bars ?");
        check.due("a law's", x.fault(), 5);
        Check.orders(x, "pass pass pass");
        check.due("orders'", x.fault(), 5);
        x.row();
        check.due("a row is no text", x.fault(), 5);
        Check.orders(x, "pass");
        check.due("without", x.fault(), -1);
        Check.law(x, "");
        check.due("at 0", x.fault(), 0);
        Check.law(x, "bars");
        check.due("without", x.fault(), -1);
        Check.orders(x, "move 0 to 0");
        check.due("one that can't be is no fault", x.fault(), -1);
    }

    private static void stopped(Check check) {
        check.of("Promise 16", "Which CLAUSE of the latest orders() could not be. NONE.");
        TamerState x = new TamerState();
        check.due("ahead of any", x.stopped(), -1);
        Check.orders(x, "move 0 to 0");
        check.due("the first", x.stopped(), 0);
        Check.orders(x, "pass" + ";pass".repeat(10) + ";move 0 to 0");
        check.due("the twelfth", x.stopped(), 11);
        Check.law(x, "bars");
        check.due("a law is none", x.stopped(), 11);
        Check.orders(x, "pass");
        check.due("none", x.stopped(), -1);
        Check.orders(x, "pass;move 0 to 0;move 0 to 0");
        check.due("the first that could not", x.stopped(), 1);
        Check.orders(x, "pass ?");
        check.due("none was run", x.stopped(), -1);
    }

    private static void force(Check check) {
        check.of("Promise 17", "A LAW is in FORCE (NONE: none): which was. -2.");
        TamerState x = new TamerState();
        check.due("none for none", x.force(-1), -1);
        check.due("it is not REFUSED", x.status(), 0);
        check.due("there is no law 0", x.force(0), -2);
        Check.law(x, "bars");
        Check.law(x, "bars");
        check.due("the first", x.force(0), -1);
        check.due("the last", x.force(1), 0);
        check.due("one beyond", x.force(2), -2);
        check.due("-2", x.force(-2), -2);
        check.due("as it was", x.count(12), 1);
        check.due("none", x.force(-1), 1);
        check.due("none", x.count(12), -1);
    }

    private static void crack(Check check) {
        check.of("Promise 18", "To CRACK: 0, 1, 2. -2; -3.");
        TamerState x = Ring.of("0 4 0, 0 3 2, 0 0 4", "0 0");
        check.due("no tamer 1", x.crack(1, 0), -2);
        check.due("no tamer -1", x.crack(-1, 0), -2);
        check.due("no province 3", x.crack(0, 3), -2);
        check.due("no province -1", x.crack(0, -1), -2);
        check.row("it bites, balks, jumps", new int[] {x.crack(0, 0), x.crack(0, 1), x.crack(0, 2)}, 0, 1, 2);
        check.due("with one arm", x.crack(0, 0), 0);
        check.due("without", x.crack(0, 2), -3);
        check.due("status()", x.status(), -3);
        TamerState y = Ring.of("0 0 0", "0 0");
        Check.forced(y, "bars");
        check.due("barred", y.crack(0, 0), -3);
    }

    private static void meat(Check check) {
        check.of("Promise 19", "To FEED: HUNGER then. -2; -3.");
        TamerState x = Ring.of("4 0 0", "0 2");
        check.due("no tamer 1", x.meat(1, 0), -2);
        check.due("no tamer -1", x.meat(-1, 0), -2);
        check.due("no province 1", x.meat(0, 1), -2);
        check.due("no province -1", x.meat(0, -1), -2);
        check.due("hunger 4", x.meat(0, 0), 1);
        check.due("hunger 1", x.meat(0, 0), 0);
        check.due("no meat", x.meat(0, 0), -3);
        check.due("status()", x.status(), -3);
    }

    private static void move(Check check) {
        check.of("Promise 20", "To MOVE: the TUB it was on. -1; -2; -3 (where it is, too).");
        TamerState x = Ring.of("0 0 0, 0 0 1", "");
        check.due("tub -1", x.move(0, -1), -1);
        check.due("tub 8", x.move(0, 8), -1);
        check.due("no province 2", x.move(2, 7), -2);
        check.due("no province -1", x.move(-1, 7), -2);
        check.due("where it is", x.move(0, 0), -3);
        check.due("where another is", x.move(0, 1), -3);
        check.due("tub 7", x.move(0, 7), 0);
        check.due("tub 0", x.move(0, 0), 7);
        check.due("status()", x.status(), 0);
    }

    private static void pass(Check check) {
        check.of("Promise 21", "A DAY: its number. -3.");
        TamerState x = new TamerState();
        check.due("the first", x.pass(), 1);
        x.terms(0, 998);
        check.due("the last", x.pass(), 999);
        check.due("no more", x.pass(), -3);
        check.due("status()", x.status(), -3);
    }

    private static void undo(Check check) {
        check.of("Promise 22", "The latest crack(), meat(), move(), pass() (by ORDERS, too; 16 are kept) is undone: 0 .. 3.");
        TamerState x = Ring.of("5 5 0, 5 5 1", "10 5");
        String[] ahead = new String[4];
        ahead[0] = Ring.kept(x);
        x.crack(0, 0);
        ahead[1] = Ring.kept(x);
        x.meat(0, 1);
        ahead[2] = Ring.kept(x);
        x.move(1, 5);
        ahead[3] = Ring.kept(x);
        check.due("by orders", Check.orders(x, "pass"), 1);
        for (int kind = 3; kind >= 0; kind--) {
            check.due("undo()", x.undo(), kind);
            check.same("as it was", Ring.kept(x), ahead[kind]);
        }
        check.due("no more", x.undo(), -3);
        check.due("status()", x.status(), -3);
    }

    private static void undoAtMost(Check check) {
        check.of("Promise 22", "16 are kept");
        for (int acts = 15; acts <= 18; acts++) {
            TamerState x = new TamerState();
            for (int n = 0; n < acts; n++) {
                x.pass();
            }
            int kept = Math.min(acts, 16);
            check.due("kept of " + acts, x.count(5), kept);
            for (int n = 0; n < kept; n++) {
                check.due("undo()", x.undo(), 3);
            }
            check.due("no more", x.undo(), -3);
            check.due("the day", x.count(13), acts - kept);
            check.due("a REFUSED undo() undoes nothing", x.count(5), 0);
        }
        TamerState y = new TamerState();
        Check.orders(y, "pass times 16");
        check.due("16 by orders", y.count(5), 16);
        Check.orders(y, "pass times 20");
        check.due("36 by orders", y.count(5), 16);
    }

    private static void undoAhead(Check check) {
        check.of("Promise 22", "-3 there is none (nothing that was ahead of a province(), tamer(), terms(), row() that was "
            + "not REFUSED can be undone)");
        for (int kind = 0; kind < 4; kind++) {
            TamerState x = Ring.of("0 0 0", "0 0");
            x.pass();
            ends(x, kind, true);
            check.due("REFUSED, " + kind, x.status() < 0 ? 1 : 0, 1);
            check.due("it can be undone", x.count(5), 1);
            check.due("undo()", x.undo(), 3);
            x.pass();
            x.pass();
            ends(x, kind, false);
            check.due("not REFUSED, " + kind, x.status(), 0);
            check.due("nothing can be undone", x.count(5), 0);
            check.due("undo()", x.undo(), -3);
            x.pass();
            check.due("what is behind it can", x.undo(), 3);
            check.due("no more", x.undo(), -3);
        }
        TamerState y = Ring.of("0 0 0", "0 0");
        y.pass();
        y.feud(0, 0, 0);
        y.force(-1);
        y.done(0, 0, 0, 0);
        y.forget();
        Check.law(y, "bars");
        Check.orders(y, "pass if 1=2");
        y.decades(0, 1);
        y.image(0);
        check.due("the others leave it", y.count(5), 1);
    }

    private static void ends(TamerState x, int kind, boolean refused) {
        switch (kind) {
            case 0:
                x.province(0, 0, refused ? 0 : 1);
                break;
            case 1:
                x.tamer(refused ? 21 : 20, 0);
                break;
            case 2:
                x.terms(1, refused ? 11 : 1);
                break;
            default:
                x.feed(-1, 0, 0, 0, 0);
                x.end(refused ? 0 : 1);
                x.row();
                break;
        }
    }
}
