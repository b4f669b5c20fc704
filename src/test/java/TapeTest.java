/** Promises 1 to 3: a new object, feed, end. */
public final class TapeTest {
    private static final int BLANKS = 0x20202020;

    public static void main(String[] args) {
        Checks c = new Checks();
        newObject(c);
        feed(c);
        end(c);
        c.finish();
    }

    private static void newObject(Checks c) {
        VeneerDesk x = c.part("new object");
        for (int l = -1; l <= 3; l++) {
            c.due("leaf(" + l + ", 0, 0)", x.leaf(l, 0, 0), -1000);
        }
        for (int d = -1; d <= 8; d++) {
            c.due("of(" + d + ", 0)", x.of(d, 0), -1);
            c.due("piece(" + d + ", 0, 0)", x.piece(d, 0, 0), -1);
            c.due("planned(" + d + ")", x.planned(d), -1);
            c.due("free(" + d + ")", x.free(d), false);
        }
        c.due("fault(0)", x.fault(0), 0);
        c.due("fault(1)", x.fault(1), -1);
        c.due("plan()", x.plan(), -1);
        c.due("end(1)", x.end(1), false);
        VeneerDesk other = new VeneerDesk();
        other.log(0, 1, 10, 10, 0);
        c.due("an object has its own LOGS", x.leaf(0, 0, 0), -1000);
        c.due("NONE", VeneerDesk.NONE, -1);
    }

    private static void feed(Checks c) {
        VeneerDesk x = c.part("feed");
        // 0|1|2|3|4|5|6|7 with blanks: each number has its highest byte first, the first number first.
        int got = x.feed(0x307C317C, 0x327C337C, 0x347C357C, 0x367C3720, BLANKS);
        c.due("feed of a text", got, 20);
        c.due("door(0, 1, 1, 0)", x.door(0, 1, 1, 0), 8);
        for (int column = 0; column < 8; column++) {
            c.due("piece in column " + column, x.piece(0, column, 0), column);
        }
        for (int n = 1; n <= 20; n++) {
            c.due("feed " + n, x.feed(BLANKS, BLANKS, BLANKS, BLANKS, BLANKS), 20 * n);
        }
        c.due("feed with 400", x.feed(BLANKS, BLANKS, BLANKS, BLANKS, BLANKS), -1);
        c.due("end(381)", x.end(381), true);
        c.due("feed with 381", x.feed(0, 0, 0, 0, 0), -1);
        c.due("end(382)", x.end(382), false);
        c.due("end(380)", x.end(380), true);
        c.due("feed with 380", x.feed(BLANKS, BLANKS, BLANKS, BLANKS, 0x20202035), 400);
        c.due("door of 400 bytes", x.door(0, 1, 1, 0), 1);
        c.due("piece behind 399 blanks", x.piece(0, 0, 0), 5);
        x.feed(0x307C31FF, BLANKS, BLANKS, BLANKS, BLANKS);
        c.due("a byte above 127", x.door(0, 1, 1, 0), -1);
        c.due("its place", x.fault(1), 3);
        x.feed(0xB0202020, BLANKS, BLANKS, BLANKS, BLANKS);
        c.due("a digit with its highest bit", x.door(0, 1, 1, 0), -1);
    }

    private static void end(Checks c) {
        VeneerDesk x = c.part("end");
        c.due("end(0) of an empty tape", x.end(0), true);
        c.due("end(-1)", x.end(-1), false);
        c.due("end(least)", x.end(Integer.MIN_VALUE), false);
        x.feed(0x307C317C, 0x32202020, BLANKS, BLANKS, BLANKS);
        c.due("end(21)", x.end(21), false);
        c.due("end(most)", x.end(Integer.MAX_VALUE), false);
        c.due("end(20)", x.end(20), true);
        c.due("end(3)", x.end(3), true);
        c.due("end(4)", x.end(4), false);
        c.due("end(3) again", x.end(3), true);
        c.due("feed behind 3", x.feed(0x7C332020, BLANKS, BLANKS, BLANKS, BLANKS), 23);
        c.due("door(0, 1, 1, 0)", x.door(0, 1, 1, 0), 3);
        c.due("piece(0, 2, 0)", x.piece(0, 2, 0), 3);
        c.due("end(1) when the tape is gone", x.end(1), false);
    }
}
