/** Promises 14 and 16, and fault (15) of orders: orders, stopped. */
public final class OrdersTest {
    public static void main(String[] args) {
        Check check = new Check("OrdersTest");
        faults(check);
        limits(check);
        acts(check);
        timesAndIf(check);
        words(check);
        wholly(check);
        stopsAtEach(check);
        undone(check);
        check.close();
    }

    private static TamerState ring() {
        TamerState x = new TamerState();
        x.province(2, 3, 0);
        x.province(5, 4, 1);
        x.tamer(6, 10);
        x.tamer(2, 1);
        return x;
    }

    private static void faults(Check check) {
        Object[][] orders = {
            {"", 0}, {"  ", 2}, {"crack", 5}, {"crack 0", 7}, {"crack 0 to 1", 8}, {"crack 0 at", 10}, {"feed 0 at 1", 7},
            {"feed 0 to", 9}, {"move 0 at 1", 7}, {"pass 1", 5}, {"pass times", 10}, {"pass times 0", 11},
            {"pass times 21", 11}, {"pass times 2 times 2", 13}, {"pass times 1+1", 12}, {"pass times day", 11},
            {"pass if", 7}, {"pass if 1=1 times 2", 12}, {"pass;", 5}, {"pass pass", 5}, {"crack hunger 6 at 0", 13},
            {"crack hunger at 0", 13}, {"crack hunger day at 0", 13}, {"crack temper 6 at 0", 13}, {"feed meat 4 to 0", 10},
            {"feed arms 4 to 0", 10}, {"feed arms", 9}, {"crack tamer at 0", 6}, {"crack memory at 0", 6},
            {"crack mood at 0", 6}, {"crack nerve at 0", 6}, {"crack tub at 0", 6}, {"crack province at 0", 6},
            {"angers 1", 0}, {"crack 1001 at 0", 6}, {"pass times 1001", 11}, {"pass at", 5}, {"move [0 to 1", 8},
            {"pass times 2;pass if hunger 1001=1", 28}, {"pass; pass; Pass", 12},
        };
        for (Object[] order : orders) {
            TamerState x = ring();
            x.pass();
            check.due("orders of '" + order[0] + "'", Check.orders(x, (String) order[0]), -6);
            check.due("fault of '" + order[0] + "'", x.fault(), (Integer) order[1]);
            check.due("stopped of '" + order[0] + "'", x.stopped(), -1);
            check.due("status()", x.status(), -6);
            check.due("the tape is empty then", x.count(6), 0);
            check.due("nothing was run", x.count(13), 1);
        }
    }

    private static void limits(Check check) {
        TamerState x = ring();
        String twelve = "pass" + ";pass".repeat(11);
        check.due("twelve", Check.orders(x, twelve), 12);
        check.due("thirteen", Check.orders(x, twelve + ";pass"), -6);
        check.due("at the 13th's first token", x.fault(), twelve.length() + 1);
        String fifty = "pass times 20 if hunger 0" + "+hunger 0".repeat(20) + "+1".repeat(28) + "=";
        String fortyEight = fifty.replaceFirst("hunger 0\\+hunger 0\\+", "");
        check.due("fifty parts; P, TIMES aside", Check.orders(x, fifty + "done"), 0);
        check.due("fifty-one", Check.orders(x, fifty + "done+hunger 9"), -6);
        check.due("at the 51st's word", x.fault(), fifty.length() + 5);
        for (int n = 0; n < 12; n++) {
            check.due("long texts, one behind the other", Check.orders(x, fortyEight + "1000;pass if day > 500"), 0);
        }
        check.due("a right text has no fault", Check.orders(x, "pass times 020"), 20);
        check.due("fault()", x.fault(), -1);
    }

    private static void acts(Check check) {
        TamerState x = ring();
        check.due("crack", Check.orders(x, "crack 0 at 0"), 1);
        check.due("it jumped", x.of(0, 0), 3);
        check.due("feed", Check.orders(x, "feed 0 to 1"), 1);
        check.due("fed", x.of(1, 0), 2);
        check.due("by whom", x.asks(0, 1, 0), 1);
        check.due("move", Check.orders(x, "move 1 to 3+2"), 1);
        check.due("moved", x.of(1, 2), 5);
        check.due("pass", Check.orders(x, "pass"), 1);
        check.due("passed", x.count(13), 1);
        check.due("all at once", Check.orders(x, "pass;move 0 to 7;feed 1 to 0;crack 1 at 1"), 4);
        check.due("status()", x.status(), 0);
        check.due("count(13)", x.count(13), 2);
    }

    private static void timesAndIf(Check check) {
        TamerState x = ring();
        check.due("times", Check.orders(x, "feed 0 to 1 times 4"), 4);
        check.due("meat", x.at(0, 1), 6);
        check.due("the if each time", Check.orders(x, "pass times 20 if day < 3"), 3);
        check.due("count(13)", x.count(13), 3);
        check.due("not so", Check.orders(x, "crack 9 at 9 if day = 2;pass if not day = 3"), 0);
        check.due("BROKEN: not run", Check.orders(x, "pass if 1/0=1;crack 9 at 9 if 1/[day-day]=1"), 0);
        check.due("stopped()", x.stopped(), -1);
        check.due("status()", x.status(), 0);
        check.due("the if ahead of the sums", Check.orders(x, "crack 1/0 at 0 if 1=2"), 0);
        check.due("sums told anew each time", Check.orders(x, "move 0 to done+3 times 4"), 4);
        check.due("of(0, 2)", x.of(0, 2), 6);
        check.due("a later time can't be", Check.orders(x, "feed 1 to 0 times 20"), -3);
        check.due("stopped()", x.stopped(), 0);
    }

    private static void words(Check check) {
        TamerState x = ring();
        x.terms(0, 40);
        String[] so = {
            "day=40", "done=0", "latest=0-1", "hunger 0=2", "hunger 1=5", "hunger 2=0-1", "hunger 5=0-1", "temper 0=3",
            "temper 1=4", "temper 2=0-1", "meat 0=10", "meat 1=1", "meat 2=0-1", "arms 0=2", "arms 1=2", "arms 3=0-1",
        };
        for (String test : so) {
            check.due(test, Check.orders(x, "move 1 to 6 if " + test + ";move 1 to 1 if done=1"), 2);
        }
        TamerState full = new TamerState();
        for (int p = 0; p < 6; p++) {
            full.province(p, 9 - p, p);
        }
        for (int t = 0; t < 4; t++) {
            full.tamer(20, 30 + t);
        }
        for (int n = 0; n < 6; n++) {
            String of = "hunger " + n + "=" + n + " and temper " + n + "=" + (9 - n);
            String by = n < 4 ? " and meat " + n + "=" + (30 + n) + " and arms " + n + "=2" : "";
            check.due(of + by, Check.orders(full, "move 0 to 7 if " + of + by + ";move 0 to 0 if done = 1"), 2);
        }
        check.due("latest", Check.orders(x, "crack 0 at 0;pass if latest=2;crack 0 at 1;pass if latest=1 and done=3"), 4);
        check.due("latest is of this text", Check.orders(x, "pass if latest=0-1;feed 0 to 0;pass if latest=0-1"), 3);
        check.due("a bite", Check.orders(x, "crack 1 at 0;pass if latest=0;pass if arms 1=1"), 3);
        check.due("done counts times", Check.orders(x, "pass times 3;pass if done=3;pass if done=5;pass if done=4"), 5);
    }

    private static void wholly(Check check) {
        TamerState x = ring();
        x.pass();
        x.move(0, 4);
        String sixteen = "pass times 20;feed 0 to 0 times 5;move 0 to 0;crack 1 at 1;";
        check.due("the last can't be", Check.orders(x, sixteen + "feed 0 to 7"), -3);
        check.due("stopped()", x.stopped(), 4);
        check.due("status()", x.status(), -3);
        check.due("count(9)", x.count(9), 1);
        check.due("inner ones are no calls", x.count(8), 0);
        check.due("count(13)", x.count(13), 1);
        check.due("of(0, 2)", x.of(0, 2), 4);
        check.due("at(0, 1)", x.at(0, 1), 15);
        check.due("at(1, 2)", x.at(1, 2), 2);
        check.due("asks(0, 0, 0)", x.asks(0, 0, 0), 0);
        check.due("count(5)", x.count(5), 2);
        check.due("undo()", x.undo(), 2);
        check.due("of(0, 2)", x.of(0, 2), 0);
        check.due("undo()", x.undo(), 3);
        check.due("undo()", x.undo(), -3);
        check.due("count(13)", x.count(13), 0);
        check.due("fault()", x.fault(), -1);
        check.due("the tape is empty then", x.count(6), 0);
    }

    private static void stopsAtEach(Check check) {
        String[] cannot = {
            "crack 2 at 0", "crack 0 at 2", "crack 0-1 at 0", "crack 1/0 at 0", "crack 0 at 1%0", "feed 2 to 0", "feed 0 to 2",
            "feed 0 to 1000*1000*1000+1", "feed 1 to 0 times 7", "move 0 to 8", "move 0 to 0-1", "move 0 to 0", "move 0 to 1",
            "move 2 to 5", "move 1/0 to 5", "pass times 20",
        };
        for (String order : cannot) {
            TamerState x = ring();
            x.terms(0, 985);
            check.due(order, Check.orders(x, "pass;" + order), -3);
            check.due("stopped() of " + order, x.stopped(), 1);
            check.due("count(13)", x.count(13), 985);
            check.due("at(1, 1)", x.at(1, 1), 1);
            check.due("right orders then", Check.orders(x, "pass"), 1);
            check.due("stopped() then", x.stopped(), -1);
        }
        TamerState x = ring();
        Check.forced(x, "bars if tamer = 0");
        check.due("barred", Check.orders(x, "crack 0 at 0"), -3);
        check.due("no arms", Check.orders(x, "crack 1 at 1 times 3"), -3);
        check.due("at(1, 2)", x.at(1, 2), 2);
        check.due("stopped()", x.stopped(), 0);
        check.due("wrong text", Check.orders(x, "crack"), -6);
        check.due("stopped() of the latest", x.stopped(), -1);
    }

    private static void undone(Check check) {
        TamerState x = ring();
        check.due("twenty", Check.orders(x, "pass times 14;feed 0 to 0 times 3;move 0 to 5;crack 0 at 0;pass"), 20);
        check.due("count(5)", x.count(5), 16);
        int[] kinds = {3, 0, 2, 1, 1, 1, 3, 3, 3, 3, 3, 3, 3, 3, 3, 3};
        for (int kind : kinds) {
            check.due("undo()", x.undo(), kind);
        }
        check.due("no more", x.undo(), -3);
        check.due("count(13)", x.count(13), 4);
        check.due("of(0, 2)", x.of(0, 2), 0);
        check.due("at(0, 1)", x.at(0, 1), 30);
    }
}
