/** Promises 9 to 12: feed, end, row, saucers. */
public final class TapeTest {
    public static void main(String[] args) {
        Check check = new Check("TapeTest");
        bytes(check);
        rows(check);
        rowsAndRoom(check);
        check.close();
    }

    private static void bytes(Check check) {
        TamerState x = new TamerState();
        for (int n = 20; n <= 400; n += 20) {
            check.due("feed to " + n, x.feed(-1, 0, 1, Integer.MIN_VALUE, 7), n);
        }
        check.due("beyond 400", x.feed(0, 0, 0, 0, 0), -1);
        check.due("count(6)", x.count(6), 400);
        check.due("end(401)", x.end(401), -1);
        check.due("end(-1)", x.end(-1), -1);
        check.due("end(400)", x.end(400), 400);
        check.due("end(381)", x.end(381), 381);
        check.due("381 and 20 are too many", x.feed(0, 0, 0, 0, 0), -1);
        check.due("end(380)", x.end(380), 380);
        check.due("380 and 20 are not", x.feed(0, 0, 0, 0, 0), 400);
        check.due("end(0)", x.end(0), 0);
        check.due("end(1)", x.end(1), -1);
        check.due("count(6)", x.count(6), 0);
        check.due("nothing was REFUSED", x.count(7), 0);
        check.due("status()", x.status(), 0);
        // 4, 5, 6 and 7, 8, 2: the highest byte of a number comes first
        x.feed(0x04050607, 0x08020000, 0, 0, 0);
        x.end(6);
        check.due("row()", x.row(), 2);
        check.due("of(0, 0)", x.of(0, 0), 4);
        check.due("of(0, 1)", x.of(0, 1), 5);
        check.due("of(0, 2)", x.of(0, 2), 6);
        check.due("of(1, 0)", x.of(1, 0), 7);
        check.due("of(1, 1)", x.of(1, 1), 8);
        check.due("of(1, 2)", x.of(1, 2), 2);
    }

    private static void rows(Check check) {
        TamerState x = new TamerState();
        check.due("row() of nothing", x.row(), -6);
        check.due("status()", x.status(), -6);
        check.due("count(11)", x.count(11), 1);
        check.due("saucers()", x.saucers(), 0);
        Check.writeBytes(x, new byte[] {1, 2, 3, 10, 0, 0, 0, 10, 0, 0, 0, 8, 9, 9, 3, 0, 0, 4, (byte) 200, 1, 1, 5, 5});
        check.due("row()", x.row(), 2);
        check.due("saucers()", x.saucers(), 6);
        check.due("count(6)", x.count(6), 0);
        check.due("of(1, 2)", x.of(1, 2), 4);
        check.due("row() of nothing", x.row(), -6);
        check.due("saucers() as they were", x.saucers(), 6);
        Check.writeBytes(x, new byte[] {1});
        check.due("row() of one byte", x.row(), 0);
        check.due("status()", x.status(), 0);
        check.due("saucers()", x.saucers(), 1);
        Check.writeBytes(x, new byte[] {1, 1, 7});
        check.due("row()", x.row(), 1);
        check.due("saucers()", x.saucers(), 0);
        for (int n = 1; n < 3; n++) {
            x.feed(0x01010600, 0, 0, 0, 0);
            x.end(n);
            check.due("bytes behind the end are none", x.row(), 0);
            check.due("saucers()", x.saucers(), 1);
        }
    }

    private static void rowsAndRoom(Check check) {
        TamerState x = new TamerState();
        byte[] eight = new byte[24];
        for (int i = 0; i < 8; i++) {
            eight[3 * i + 2] = (byte) i;
        }
        Check.writeBytes(x, eight);
        check.due("row()", x.row(), 6);
        check.due("saucers()", x.saucers(), 2);
        check.due("count(0)", x.count(0), 6);
        x.pass();
        check.due("count(5)", x.count(5), 1);
        check.due("a row REFUSED", x.row(), -6);
        check.due("leaves what can be undone", x.count(5), 1);
        Check.writeBytes(x, new byte[] {0});
        check.due("a row of saucers", x.row(), 0);
        check.due("does not", x.count(5), 0);
    }
}
