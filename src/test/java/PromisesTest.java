import java.util.List;
import java.util.function.ToIntFunction;

/** The document's promises 1 to 21, sentence by sentence. */
public final class PromisesTest {
    private static final int BLANKS = 0x20202020;
    private static final int[] NO_DOORS = {Integer.MIN_VALUE, -1, 4, 5, 6, 7, 8, Integer.MAX_VALUE};
    private static final int[] NO_LOGS = {Integer.MIN_VALUE, -1, 2, 3, Integer.MAX_VALUE};

    private final Checks c = new Checks();
    private final Document document = new Document(c, "## Promise 1:", "## Not promised");
    private final List<String> before = new View(View.desk()).all();

    public static void main(String[] args) {
        PromisesTest t = new PromisesTest();
        t.newObject();
        t.feed();
        t.end();
        t.log();
        t.tone();
        t.flaw();
        t.drift();
        t.leaf();
        t.hit();
        t.door();
        t.doorRefused();
        t.fault();
        t.of();
        t.piece();
        t.joint();
        t.same();
        t.why();
        t.place();
        t.make();
        t.plan();
        t.planned();
        t.free();
        t.document.end();
        t.c.finish();
    }

    /** A call on the desk of View that is refused with an answer, and changes nothing. */
    private void dueRefused(String call, int refused, ToIntFunction<VeneerDesk> asked) {
        VeneerDesk x = View.desk();
        c.due(call, asked.applyAsInt(x), refused);
        c.dueStill(call, new View(x).all(), before);
    }

    private static int bit(boolean answer) {
        return answer ? 1 : 0;
    }

    /** Promise 1. */
    private void newObject() {
        VeneerDesk x = document.says("No LOGS, no DOORS.");
        for (int l = 0; l < 3; l++) {
            c.due("LOG " + l, x.leaf(l, 0, 4), -1000);
            c.due("tone", x.tone(l, 0, 0), false);
            c.due("flaw", x.flaw(l, 0, 0, 0, 1, 1), -1);
            c.due("hit", x.hit(l, 0, 0, 0, 1, 1), -2);
        }
        for (int d = 0; d < 8; d++) {
            for (int what = 0; what < 10; what++) {
                c.due("of(" + d + ", " + what + ")", x.of(d, what), -1);
            }
            c.due("piece", x.piece(d, 0, 0), -1);
            c.due("same", x.same(d, d, 0), -1);
        }
        c.due("plan", x.plan(), -1);
        c.due("the tape has no byte", x.end(1), false);
        x.log(0, 1, 10, 10, 0);
        c.door(0, 1, 1, 0, "0");
        x = c.anew();
        c.due("another object has no LOG", x.leaf(0, 0, 4), -1000);
        c.due("another object has no DOOR", x.of(0, 0), -1);
    }

    /** Promise 2. */
    private void feed() {
        VeneerDesk x = document.says("Twenty bytes come behind those on the tape, of each number the highest first: how many there are;");
        // 0|1|2|3|4|5|6|7, each sign of it with its own place in its number.
        c.due("feed", x.feed(0x20207C20, 0x307C2031, 0x7C327C33, 0x7C20347C, 0x357C3637), 20);
        c.due("a sign ahead of all", x.door(0, 1, 1, 0), -1);
        c.due("its place", x.fault(1), 2);
        c.due("feed", x.feed(0x20202020, 0x307C2031, 0x7C327C33, 0x7C20347C, 0x357C367C), 20);
        c.due("feed", x.feed(0x37202020, BLANKS, BLANKS, BLANKS, 0x202020FF), 40);
        c.due("the last byte of all", x.door(0, 1, 1, 0), -1);
        c.due("its place", x.fault(1), 39);
        c.due("feed", x.feed(0x20202020, 0x307C2031, 0x7C327C33, 0x7C20347C, 0x357C367C), 20);
        c.due("feed", x.feed(0x37202020, BLANKS, BLANKS, BLANKS, BLANKS), 40);
        c.due("door", x.door(0, 1, 1, 0), 8);
        for (int column = 0; column < 8; column++) {
            c.due("PIECE " + column, x.piece(0, column, 0), column);
        }
        for (int n = 1; n <= 20; n++) {
            c.due("feed " + n, x.feed(n == 1 ? 0x317C3220 : BLANKS, BLANKS, BLANKS, BLANKS, BLANKS), 20 * n);
        }
        document.says("NONE, doing nothing, if there would be more than 400.");
        c.desk = x;
        c.due("a 401st byte", x.feed(0, 0, 0, 0, 0), -1);
        c.due("the 400 are there", x.end(400), true);
        c.due("end(381)", x.end(381), true);
        c.due("401 with 381", x.feed(0, 0, 0, 0, 0), -1);
        c.due("nothing came", x.end(382), false);
        c.due("end(380)", x.end(380), true);
        c.due("400 with 380", x.feed(BLANKS, BLANKS, BLANKS, BLANKS, 0x20207C33), 400);
        c.due("once more", x.feed(0, 0, 0, 0, 0), -1);
        c.due("the text is whole", x.door(0, 1, 1, 0), 3);
        c.due("its first PIECE", x.piece(0, 0, 0), 1);
        c.due("its last PIECE", x.piece(0, 2, 0), 3);
    }

    /** Promise 3. */
    private void end() {
        VeneerDesk x = document.says("The tape has its first n bytes alone: true;");
        for (int n = 0; n <= 20; n++) {
            x.feed(0x317C317C, 0x317C317C, 0x317C317C, 0x317C2020, 0x20202020);
            c.due("end(" + n + ")", x.end(n), true);
            int pieces = n % 2 == 1 && n < 15 ? (n + 1) / 2 : -1;
            c.due("the first " + n, x.door(0, 1, 1, 0), pieces);
            c.due("their FAULT", x.fault(1), pieces > 0 ? -1 : n);
        }
        x.feed(0x317C3220, BLANKS, BLANKS, BLANKS, BLANKS);
        c.due("end(2)", x.end(2), true);
        c.due("feed behind them", x.feed(0x33202020, BLANKS, BLANKS, BLANKS, BLANKS), 22);
        c.due("door", x.door(0, 1, 1, 0), 2);
        c.due("its last PIECE", x.piece(0, 1, 0), 3);
        x = document.says("false, doing nothing, if it has not so many, or n is below 0.");
        c.due("end(1) of none", x.end(1), false);
        x.feed(0x317C3220, BLANKS, BLANKS, BLANKS, BLANKS);
        for (int n : new int[] {21, 400, 401, Integer.MAX_VALUE, -1, -20, Integer.MIN_VALUE}) {
            c.due("end(" + n + ")", x.end(n), false);
        }
        c.due("all are there", x.end(20), true);
        c.due("end(3)", x.end(3), true);
        c.due("end(4)", x.end(4), false);
        c.due("three are there", x.feed(BLANKS, BLANKS, BLANKS, BLANKS, BLANKS), 23);
        c.due("door", x.door(0, 1, 1, 0), 2);
    }

    /** Promise 4. */
    private void log() {
        document.says("A LOG is a new one, without FLAWS and CUTS");
        VeneerDesk x = View.desk();
        c.due("log", x.log(0, 4, 35, 25, -1), true);
        c.due("LEAVES", x.leaf(0, 0, 4), 4);
        c.due("LENGTH", x.leaf(0, 0, 5), 35);
        for (int i = 0; i < 4; i++) {
            c.due("WIDTH of LEAF " + i, x.leaf(0, i, 0), 25 - i);
            c.due("TONE of LEAF " + i, x.leaf(0, i, 1), 0);
            c.due("FLAWS of LEAF " + i, x.leaf(0, i, 2), 0);
            c.due("CUTS of LEAF " + i, x.leaf(0, i, 3), 0);
            c.due("the whole LEAF " + i, x.hit(0, i, 0, 0, 25 - i, 35), -1);
        }
        x.end(0);
        Checks.tape(x, "0");
        x.door(7, 25, 35, 0);
        c.due("nothing is in the way", x.why(7, 0, 0, 0, 0), 0);
        c.due("no FLAW drifts", x.drift(0, 3, 0, 0), false);
        c.due("the next FLAW", x.flaw(0, 0, 0, 0, 1, 1), 0);
        c.due("the other LOG's CUTS", x.leaf(1, 0, 3), 2);
        c.due("the other LOG's TONE", x.leaf(1, 0, 1), 7);
        document.says("(DOORS made of the one before are no more made): true;");
        x = View.desk();
        c.due("made of LOG 0", x.of(0, 6), 0);
        c.due("made of LOG 1", x.of(2, 6), 1);
        c.due("log", x.log(0, 3, 40, 30, 1), true);
        for (int what = 6; what < 10; what++) {
            c.due("of(0, " + what + ")", x.of(0, what), -1);
        }
        c.due("it can't be taken back", x.free(0), false);
        c.due("made of LOG 1 still", x.of(2, 6), 1);
        c.due("it can be made", x.make(0, 0), 2);
        c.due("the one of LOG 1 can't", x.make(2, 0), -1);
        document.says("false when something can't be.");
        int[][] wrong = {{-1, 3, 40, 30, 1}, {3, 3, 40, 30, 1}, {0, 0, 40, 30, 1}, {0, 13, 40, 30, 1}, {0, 3, 9, 30, 1},
            {0, 3, 61, 30, 1}, {0, 3, 40, 9, 1}, {0, 3, 40, 41, 1}, {0, 3, 40, 30, -3}, {0, 3, 40, 30, 3}, {2, 3, 40, 30, 3}};
        for (int[] w : wrong) {
            String call = "log(" + w[0] + ", " + w[1] + ", " + w[2] + ", " + w[3] + ", " + w[4] + ")";
            dueRefused(call, 0, desk -> bit(desk.log(w[0], w[1], w[2], w[3], w[4])));
        }
    }

    /** Promise 5. */
    private void tone() {
        VeneerDesk x = document.says("TONE of a LOG's first LEAF, and darkens (0 and 0 at first): true;");
        x.log(0, 3, 40, 30, 1);
        x.log(1, 3, 40, 30, 1);
        for (int i = 0; i < 3; i++) {
            c.due("at first, LEAF " + i, x.leaf(0, i, 1), 0);
        }
        c.due("tone", x.tone(0, 40, -3), true);
        for (int i = 0; i < 3; i++) {
            c.due("then, LEAF " + i, x.leaf(0, i, 1), 40 - 3 * i);
            c.due("the other LOG, LEAF " + i, x.leaf(1, i, 1), 0);
        }
        c.due("tone again", x.tone(0, 5, 5), true);
        c.due("LEAF 2", x.leaf(0, 2, 1), 15);
        x.log(0, 3, 40, 30, 1);
        c.due("at first, of a new LOG", x.leaf(0, 2, 1), 0);
        document.says("false when that can't be.");
        int[][] wrong = {{-1, 1, 1}, {2, 1, 1}, {3, 1, 1}, {0, -1, 1}, {0, 101, 1}, {0, 1, -6}, {0, 1, 6}};
        for (int[] w : wrong) {
            String call = "tone(" + w[0] + ", " + w[1] + ", " + w[2] + ")";
            dueRefused(call, 0, desk -> bit(desk.tone(w[0], w[1], w[2])));
        }
    }

    /** Promise 6. */
    private void flaw() {
        VeneerDesk x = document.says("A FLAW more of a LOG, in LEAF first alone, its box: its number;");
        x.log(0, 4, 20, 20, 0);
        x.log(2, 4, 20, 20, 0);
        for (int k = 0; k < 10; k++) {
            c.due("FLAW " + k, x.flaw(0, k % 4, k, 2 * k, 3, 2), k);
            c.due("its LEAF", x.leaf(0, k % 4, 2), k / 4 + 1);
            c.due("the LEAF behind", x.leaf(0, (k + 1) % 4, 2), (k + 1) / 4);
        }
        c.due("of another LOG", x.flaw(2, 3, 5, 6, 3, 2), 0);
        c.due("upper left", x.hit(2, 3, 5, 6, 1, 1), 0);
        c.due("lower right", x.hit(2, 3, 7, 7, 1, 1), 0);
        c.due("left of it", x.hit(2, 3, 4, 6, 1, 2), -1);
        c.due("right of it", x.hit(2, 3, 8, 6, 1, 2), -1);
        c.due("above it", x.hit(2, 3, 5, 5, 3, 1), -1);
        c.due("below it", x.hit(2, 3, 5, 8, 3, 1), -1);
        c.due("none in LEAF 2", x.leaf(2, 2, 2), 0);
        document.says("NONE when that can't be, or there are 10.");
        c.desk = x;
        c.due("an eleventh", x.flaw(0, 0, 19, 19, 1, 1), -1);
        c.due("it is not there", x.hit(0, 0, 19, 19, 1, 1), -1);
        int[][] wrong = {{-1, 0, 1, 1, 1, 1}, {2, 0, 1, 1, 1, 1}, {3, 0, 1, 1, 1, 1}, {0, -1, 1, 1, 1, 1}, {0, 3, 1, 1, 1, 1},
            {0, 0, -1, 1, 1, 1}, {0, 0, 101, 1, 1, 1}, {0, 0, 1, -1, 1, 1}, {0, 0, 1, 101, 1, 1}, {0, 0, 1, 1, 0, 1},
            {0, 0, 1, 1, 101, 1}, {0, 0, 1, 1, 1, 0}, {0, 0, 1, 1, 1, 101}};
        for (int[] w : wrong) {
            String call = "flaw(" + w[0] + ", " + w[1] + ", " + w[2] + ", " + w[3] + ", " + w[4] + ", " + w[5] + ")";
            dueRefused(call, -1, desk -> desk.flaw(w[0], w[1], w[2], w[3], w[4], w[5]));
        }
    }

    /** Promise 7. */
    private void drift() {
        VeneerDesk x = document.says("The latest FLAW of a LOG drifts up to LEAF last: true;");
        x.log(0, 5, 20, 20, 0);
        x.log(1, 5, 20, 20, 0);
        x.flaw(0, 0, 1, 1, 1, 1);
        x.flaw(0, 1, 5, 5, 2, 2);
        x.flaw(1, 0, 0, 0, 1, 1);
        c.due("drift", x.drift(0, 3, 3, 2), true);
        int[] flaws = {1, 1, 1, 1, 0};
        for (int i = 0; i < 5; i++) {
            c.due("FLAWS of LEAF " + i, x.leaf(0, i, 2), flaws[i]);
        }
        c.due("where it begins", x.hit(0, 1, 5, 5, 2, 2), 1);
        c.due("LEAF 2", x.hit(0, 2, 8, 7, 2, 2), 1);
        c.due("LEAF 3", x.hit(0, 3, 11, 9, 2, 2), 1);
        c.due("LEAF 3, just there", x.hit(0, 3, 0, 9, 11, 2), -1);
        c.due("the FLAW before does not", x.hit(0, 1, 1, 1, 1, 1), -1);
        c.due("nor the other LOG's", x.leaf(1, 1, 2), 0);
        c.due("it drifts otherwise", x.drift(0, 2, -5, 0), true);
        c.due("LEAF 2", x.hit(0, 2, 0, 5, 2, 2), 1);
        c.due("LEAF 2, no more as before", x.hit(0, 2, 8, 7, 2, 2), -1);
        c.due("LEAF 3, no more", x.leaf(0, 3, 2), 0);
        c.door(0, 20, 20, 0, "0");
        c.due("LEAF 3 is whole again", x.why(0, 0, 3, 0, 0), 0);
        x.log(0, 5, 20, 20, 0);
        x.flaw(0, 0, 1, 1, 1, 1);
        c.due("drift of a new LOG's first", x.drift(0, 1, 0, 0), true);
        c.due("LEAF 1 has it", x.why(0, 0, 1, 0, 0), 3);
        c.due("LEAF 2 has none of the LOG before", x.why(0, 0, 2, 0, 0), 0);
        for (int k = 1; k < 10; k++) {
            c.due("FLAW " + k, x.flaw(0, 2, k, k, 1, 1), k);
        }
        c.due("the tenth drifts", x.drift(0, 3, 0, 0), true);
        c.due("into LEAF 3", x.hit(0, 3, 9, 9, 1, 1), 9);
        document.says("false when there is none, or something can't be (last below its first LEAF).");
        int[][] wrong = {{1, 1, 0, 0}, {2, 1, 0, 0}, {3, 1, 0, 0}, {-1, 1, 0, 0}, {0, 0, 1, 1}, {0, -1, 1, 1}, {0, 3, 1, 1},
            {0, 2, -21, 0}, {0, 2, 21, 0}, {0, 2, 0, -21}, {0, 2, 0, 21}};
        for (int[] w : wrong) {
            String call = "drift(" + w[0] + ", " + w[1] + ", " + w[2] + ", " + w[3] + ")";
            dueRefused(call, 0, desk -> bit(desk.drift(w[0], w[1], w[2], w[3])));
        }
    }

    /** Promise 8. */
    private void leaf() {
        VeneerDesk x = document.says("Of LEAF i of a LOG: 0 WIDTH, 1 TONE, 2 how many FLAWS touch it (overlap it), 3 CUTS;");
        x.log(1, 3, 40, 20, -1);
        x.tone(1, 10, 2);
        x.flaw(1, 0, 18, 0, 5, 5);
        x.drift(1, 2, 0, 0);
        x.flaw(1, 1, 0, 39, 5, 5);
        x.flaw(1, 1, 0, 40, 5, 5);
        x.flaw(1, 1, 18, 38, 1, 1);
        c.door(0, 2, 3, 200, "0/1/1");
        c.due("make", x.make(0, 1), 3);
        int[][] want = {{20, 10, 1, 1}, {19, 12, 3, 2}, {18, 14, 0, 0}};
        for (int i = 0; i < 3; i++) {
            for (int what = 0; what < 4; what++) {
                c.due("leaf(1, " + i + ", " + what + ")", x.leaf(1, i, what), want[i][what]);
            }
        }
        document.says("of LEAF 0 also 4 LEAVES, 5 LENGTH of the LOG.");
        c.desk = x;
        c.due("LEAVES", x.leaf(1, 0, 4), 3);
        c.due("LENGTH", x.leaf(1, 0, 5), 40);
        for (int i = 1; i < 3; i++) {
            c.due("LEAVES of LEAF " + i, x.leaf(1, i, 4), -1000);
            c.due("LENGTH of LEAF " + i, x.leaf(1, i, 5), -1000);
        }
        document.says("-1000 when there is none such.");
        for (int what : new int[] {Integer.MIN_VALUE, -1, 6, Integer.MAX_VALUE}) {
            dueRefused("what " + what, -1000, desk -> desk.leaf(0, 0, what));
        }
        for (int i : new int[] {Integer.MIN_VALUE, -1, 3, Integer.MAX_VALUE}) {
            dueRefused("LEAF " + i, -1000, desk -> desk.leaf(0, i, 0));
        }
        for (int l : NO_LOGS) {
            dueRefused("LOG " + l, -1000, desk -> desk.leaf(l, 0, 0));
        }
    }

    /** Promise 9. */
    private void hit() {
        VeneerDesk x = document.says("Which FLAW (the least number) overlaps a box (wide, high 1 .. 100) of a LEAF;");
        x.log(0, 2, 60, 40, 0);
        x.flaw(0, 1, 0, 0, 40, 60);
        x.flaw(0, 0, 4, 4, 4, 4);
        x.flaw(0, 0, 0, 0, 6, 6);
        x.flaw(0, 0, 20, 20, 10, 10);
        c.due("the least of two", x.hit(0, 0, 5, 5, 1, 1), 1);
        c.due("the second alone", x.hit(0, 0, 3, 3, 1, 1), 2);
        c.due("the last alone", x.hit(0, 0, 29, 29, 11, 31), 3);
        c.due("all three", x.hit(0, 0, 0, 0, 40, 60), 1);
        c.due("of the other LEAF", x.hit(0, 1, 39, 59, 1, 1), 0);
        document.says("NONE without;");
        c.desk = x;
        c.due("beside all", x.hit(0, 0, 8, 0, 32, 20), -1);
        c.due("below all", x.hit(0, 0, 0, 30, 40, 30), -1);
        document.says("-2 there is no such LEAF, box;");
        int[][] none = {{-1, 0, 1, 1, 1, 1}, {2, 0, 1, 1, 1, 1}, {3, 0, 1, 1, 1, 1}, {0, -1, 1, 1, 1, 1}, {0, 3, 1, 1, 1, 1},
            {0, 0, 1, 1, 0, 1}, {0, 0, 1, 1, 101, 1}, {0, 0, 1, 1, 1, 0}, {0, 0, 1, 1, 1, 101}, {0, 0, -1, -1, 0, 1}};
        for (int[] w : none) {
            dueHit(w, -2);
        }
        document.says("-3 the box is not within it.");
        int[][] beyond = {{0, 0, -1, 1, 1, 1}, {0, 0, 30, 1, 1, 1}, {0, 0, 1, 1, 30, 1}, {0, 0, 1, -1, 1, 1}, {0, 0, 1, 40, 1, 1},
            {0, 0, 1, 1, 1, 40}, {0, 0, 0, 0, 100, 1}, {0, 0, 0, 0, 1, 100}, {0, 0, Integer.MAX_VALUE, 0, 100, 1}};
        for (int[] w : beyond) {
            dueHit(w, -3);
        }
    }

    private void dueHit(int[] w, int want) {
        String call = "hit(" + w[0] + ", " + w[1] + ", " + w[2] + ", " + w[3] + ", " + w[4] + ", " + w[5] + ")";
        dueRefused(call, want, desk -> desk.hit(w[0], w[1], w[2], w[3], w[4], w[5]));
    }

    /** Promise 10. */
    private void door() {
        VeneerDesk x = document.says("The tape (it goes) is the DRAWING of a DOOR with PIECES so wide and high, TONES so far apart");
        x.log(0, 2, 20, 20, 0);
        x.tone(0, 0, 5);
        c.tape("(0|!1)/(1|0)");
        c.due("door", x.door(3, 4, 6, 5), 4);
        c.due("the tape goes", x.end(1), false);
        c.due("no byte of it is left", x.feed(BLANKS, BLANKS, BLANKS, BLANKS, BLANKS), 20);
        x.end(0);
        int[] pieces = {0, 17, 1, 0};
        for (int k = 0; k < 4; k++) {
            c.due("PIECE " + k, x.piece(3, k % 2, k / 2), pieces[k]);
        }
        c.due("so wide", x.why(3, 0, 0, 0, 16), 0);
        c.due("so wide", x.why(3, 0, 0, 0, 17), 2);
        c.due("so high", x.why(3, 0, 0, 8, 0), 0);
        c.due("so high", x.why(3, 0, 0, 9, 0), 2);
        c.due("TONES less apart", c.door(3, 4, 6, 4, "(0|!1)/(1|0)"), 4);
        c.due("why", x.why(3, 0, 0, 0, 0), 5);
        x = document.says("(what it was, and that it was made, goes; its CUTS stay lost): how many PIECES;");
        x.log(0, 2, 20, 20, 0);
        c.due("a DOOR", c.door(0, 20, 10, 0, "(0|!1)/(1|0)"), 4);
        c.due("make", x.make(0, 0), 4);
        c.due("another DRAWING", c.door(0, 1, 1, 0, "1|0|1"), 3);
        int[] want = {3, 1, 1, 0, 1, 1, -1, -1, -1, -1};
        for (int what = 0; what < 10; what++) {
            c.due("of(0, " + what + ")", x.of(0, what), want[what]);
        }
        c.due("it can't be taken back", x.free(0), false);
        c.due("CUTS of LEAF 0", x.leaf(0, 0, 3), 2);
        c.due("CUTS of LEAF 1", x.leaf(0, 1, 3), 2);
        c.due("they are in the way", x.why(0, 0, 0, 19, 19), 4);
        c.due("the LEAVES are full", x.make(0, 0), -1);
        c.due("64 PIECES", c.door(0, 1, 1, 0, "8x(0/0/0/0/0/0/0/0)"), 64);
    }

    private void doorRefused() {
        document.says("-1 with a FAULT (the DOOR before stays);");
        List<String> still = new View(View.desk()).allButTapeAndFaults();
        for (int d = 0; d < 8; d++) {
            VeneerDesk x = View.desk();
            x.end(0);
            Checks.tape(x, "(2|3)/(4|5)/6");
            c.due("door " + d, x.door(d, 9, 9, 9), -1);
            View view = new View(x);
            c.dueStill("door " + d, view.allButTapeAndFaults(), still);
            c.due("the tape goes", view.tape.get(0).equals("bytes on the tape = 0"), true);
        }
        document.says("-2 when a number can't be (the tape stays).");
        int[][] wrong = {{-1, 1, 1, 1}, {8, 1, 1, 1}, {0, 0, 1, 1}, {0, 61, 1, 1}, {1, 1, 0, 1}, {1, 1, 61, 1}, {5, 1, 1, -1},
            {3, 1, 1, 201}};
        for (int[] w : wrong) {
            String call = "door(" + w[0] + ", " + w[1] + ", " + w[2] + ", " + w[3] + ")";
            dueRefused(call, -2, desk -> desk.door(w[0], w[1], w[2], w[3]));
        }
        VeneerDesk x = c.anew();
        c.tape("0|");
        c.due("a number ahead of a FAULT", x.door(0, 61, 1, 1), -2);
        c.due("the tape stays", x.end(2), true);
        c.due("the FAULT", x.door(0, 60, 1, 1), -1);
    }

    /** Promise 11. */
    private void fault() {
        VeneerDesk x = document.says("Of the latest DRAWING that was read: its FAULT (0; 0 without, and ahead of any), its place (1; NONE without).");
        dueFault(x, "ahead of any", 0, -1);
        c.door(1, 1, 1, 0, "0|a");
        dueFault(x, "of the first", 1, 2);
        c.door(2, 1, 1, 0, "0|1/2");
        dueFault(x, "of the second", 2, 1);
        c.door(1, 1, 61, 0, "9x3");
        dueFault(x, "none was read", 2, 1);
        x.door(1, 1, 60, 0);
        dueFault(x, "of the third", 3, 1);
        c.door(3, 1, 1, 0, "0");
        dueFault(x, "without", 0, -1);
        x.door(4, 1, 1, 0);
        dueFault(x, "of a text without bytes", 1, 0);
        document.says("NONE for another what.");
        for (int what : new int[] {Integer.MIN_VALUE, -1, 2, 3, Integer.MAX_VALUE}) {
            dueRefused("fault(" + what + ")", -1, desk -> desk.fault(what));
            c.due("fault(" + what + ") without", c.anew().fault(what), -1);
        }
    }

    private void dueFault(VeneerDesk x, String name, int kind, int place) {
        c.due(name + ", fault(0)", x.fault(0), kind);
        c.due(name + ", fault(1)", x.fault(1), place);
    }

    /** Promise 12. */
    private void of() {
        VeneerDesk x = document.says("Of a DOOR: 0 how many PIECES it is wide, 1 high, 2 its greatest offset, 3 BOOK JOINTS,"
            + " 4 SLIP JOINTS, 5 JOINTS that are NONE,");
        dueOf(c.door(5, 1, 1, 0, "0|1|!2|7"), 4, 1, 7, 1, 1, 1);
        dueOf(c.door(5, 1, 1, 0, "(3|!4|5)/(!~4|~5|2)"), 3, 2, 5, 5, 0, 2);
        dueOf(c.door(5, 1, 1, 0, "0/!~1/2"), 1, 3, 2, 2, 0, 0);
        dueOf(c.door(5, 1, 1, 0, "!(0|1|2)"), 3, 1, 2, 0, 2, 0);
        dueOf(c.door(5, 1, 1, 0, "8x(0/0/0/0/0/0/0/9)"), 8, 8, 9, 0, 0, 112);
        dueOf(c.door(5, 1, 1, 0, "0"), 1, 1, 0, 0, 0, 0);
        x = document.says("6 the LOG of which it is made (NONE), 7 LEAF, 8 height, 9 PLACE x.");
        x.log(2, 4, 20, 20, 0);
        x.flaw(2, 0, 0, 0, 20, 20);
        x.flaw(2, 1, 0, 0, 20, 3);
        x.flaw(2, 1, 0, 0, 5, 20);
        c.door(5, 4, 4, 0, "0|1");
        int[] made = {2, 1, 3, 5};
        for (int what = 6; what < 10; what++) {
            c.due("ahead, of(5, " + what + ")", x.of(5, what), -1);
        }
        c.due("make", x.make(5, 2), 2);
        for (int what = 6; what < 10; what++) {
            c.due("made, of(5, " + what + ")", x.of(5, what), made[what - 6]);
        }
        x.free(5);
        for (int what = 6; what < 10; what++) {
            c.due("behind, of(5, " + what + ")", x.of(5, what), -1);
        }
        document.says("NONE when there is none such, or for others.");
        for (int what : new int[] {Integer.MIN_VALUE, -1, 10, Integer.MAX_VALUE}) {
            dueRefused("of(0, " + what + ")", -1, desk -> desk.of(0, what));
        }
        for (int d : NO_DOORS) {
            dueRefused("of(" + d + ", 0)", -1, desk -> desk.of(d, 0));
        }
    }

    private void dueOf(int pieces, int... want) {
        c.due("PIECES", pieces, want[0] * want[1]);
        for (int what = 0; what < want.length; what++) {
            c.due(pieces + " PIECES, of(5, " + what + ")", c.desk.of(5, what), want[what]);
        }
    }

    /** Promise 13. */
    private void piece() {
        VeneerDesk x = document.says("The PIECE in a column (from the left) and row (from above) of a DOOR: its offset,"
            + " 16 more if it is OVER, 32 more if UPSIDE;");
        c.door(6, 1, 1, 0, "(0|!1|~2)/(!~3|4|9)");
        int[] want = {0, 1 + 16, 2 + 16 + 32, 3 + 32, 4, 9};
        for (int k = 0; k < 6; k++) {
            c.due("column " + k % 3 + ", row " + k / 3, x.piece(6, k % 3, k / 3), want[k]);
        }
        document.says("NONE when there is none such.");
        for (int d : NO_DOORS) {
            dueRefused("piece(" + d + ", 0, 0)", -1, desk -> desk.piece(d, 0, 0));
        }
        for (int k : new int[] {Integer.MIN_VALUE, -1, 2, 7, 8, Integer.MAX_VALUE}) {
            dueRefused("piece(1, " + k + ", 0)", -1, desk -> desk.piece(1, k, 0));
            dueRefused("piece(1, 0, " + k + ")", -1, desk -> desk.piece(1, 0, k));
        }
    }

    /** Promise 14. */
    private void joint() {
        VeneerDesk x = document.says("The JOINT of a PIECE with that to its right (down false) or below it: 2 BOOK, 1 SLIP, 0 NONE;");
        c.door(6, 1, 1, 0, "(0|1|!2)/(!~1|!~2|3)");
        int[][] want = {{0, 0, 1, 2}, {1, 0, 2, 2}, {0, 1, 1, -1}, {1, 1, 0, -1}, {2, 0, -1, 0}};
        for (int[] w : want) {
            c.due("to the right of " + w[0] + ", " + w[1], x.joint(6, w[0], w[1], false), w[2]);
            c.due("below " + w[0] + ", " + w[1], x.joint(6, w[0], w[1], true), w[3]);
        }
        document.says("-1 there is no such JOINT.");
        for (int d : NO_DOORS) {
            dueRefused("joint(" + d + ", 0, 0, false)", -1, desk -> desk.joint(d, 0, 0, false));
            dueRefused("joint(" + d + ", 0, 0, true)", -1, desk -> desk.joint(d, 0, 0, true));
        }
        // DOOR 1 is 2 wide and 2 high.
        for (int k : new int[] {Integer.MIN_VALUE, -1, 1, 2, 7, 8, Integer.MAX_VALUE}) {
            dueRefused("joint(1, " + k + ", 0, false)", -1, desk -> desk.joint(1, k, 0, false));
            dueRefused("joint(1, 0, " + k + ", true)", -1, desk -> desk.joint(1, 0, k, true));
            if (k != 1) {
                dueRefused("joint(1, 0, " + k + ", false)", -1, desk -> desk.joint(1, 0, k, false));
                dueRefused("joint(1, " + k + ", 0, true)", -1, desk -> desk.joint(1, k, 0, true));
            }
        }
    }

    /** Promise 15. */
    private void same() {
        VeneerDesk x = document.says("Whether two DOORS' DRAWINGS are the same (PIECE by PIECE, of any size) seen as told:"
            + " how 0 as they are, 1 the other one in a glass, 2 turned: 1, 0;");
        String text = "((0|!1|~5)/(2|3|!~4))";
        c.door(0, 5, 6, 7, text);
        c.door(1, 60, 1, 200, text);
        c.door(2, 5, 6, 7, "!" + text);
        c.door(3, 5, 6, 7, "~" + text);
        c.door(4, 5, 6, 7, "!~" + text);
        for (int d = 0; d < 5; d++) {
            c.due("DOORS 0 and " + d + " as they are", x.same(0, d, 0), d < 2 ? 1 : 0);
            c.due("DOORS 0 and " + d + " in a glass", x.same(0, d, 1), d == 2 ? 1 : 0);
            c.due("DOORS 0 and " + d + " turned", x.same(0, d, 2), d == 3 ? 1 : 0);
        }
        String[] others = {"((1|!1|~5)/(2|3|!~4))", "((0|1|~5)/(2|3|!~4))", "((0|!1|~5)/(2|3|4))", "((0|!1|~5)/(2|3|!~5))",
            "((0|!1|~5)/(2|!3|!~4))", "(0|!1|~5)", "((0|!1)/(2|3))", "((0|!1|~5)/(2|3|!~4)/(0|0|0))", "((0|!1|~5|0)/(2|3|!~4|0))"};
        for (String other : others) {
            for (int how = 0; how < 3; how++) {
                c.door(5, 5, 6, 7, (how == 0 ? "" : how == 1 ? "!" : "~") + other);
                c.due(text + " and " + other + " seen " + how, x.same(0, 5, how), 0);
                c.due(other + " and " + text + " seen " + how, x.same(5, 0, how), 0);
                c.due(other + " and itself", x.same(5, 5, 0), 1);
            }
        }
        document.says("NONE when there are no such two, or for others.");
        for (int d : NO_DOORS) {
            dueRefused("same(" + d + ", 0, 0)", -1, desk -> desk.same(d, 0, 0));
            dueRefused("same(0, " + d + ", 0)", -1, desk -> desk.same(0, d, 0));
        }
        for (int how : new int[] {Integer.MIN_VALUE, -1, 3, Integer.MAX_VALUE}) {
            dueRefused("same(0, 0, " + how + ")", -1, desk -> desk.same(0, 0, how));
        }
    }

    /** Promise 16. */
    private void why() {
        VeneerDesk x = document.says("Why a DOOR does not FIT at a LOG, LEAF, height and PLACE: 0 it does;");
        whyDesk(x);
        c.due("it does", x.why(0, 1, 0, 8, 9), 0);
        document.says("else, of the first PIECE (row by row) of which something is so:");
        c.desk = x;
        // At LEAF 0, height 0, x 0: LEAF 0 has a CUT, LEAF 1 a FLAW, LEAF 2 is too narrow, LEAF 3 is missing.
        String[] texts = {"0|1|2|3", "1|0|2|3", "2|1|0|3", "3|2|1|0", "(0|1)/(2|3)", "1/2|0/3", "(3|3)/(0|1)"};
        int[] want = {4, 3, 2, 1, 4, 3, 1};
        for (int k = 0; k < texts.length; k++) {
            c.door(1, 9, 1, 0, texts[k]);
            c.due(texts[k], x.why(1, 1, 0, 0, 0), want[k]);
        }
        c.door(1, 1, 1, 0, "(2|1)/(3|0)");
        c.due("a PIECE that FITS is ahead", x.why(1, 1, 0, 0, 0), 3);
        c.door(1, 1, 1, 0, "2/3|1/0");
        c.due("row by row, not column by column", x.why(1, 1, 0, 0, 0), 3);
        document.says("1 there is no such LEAF, 2 its CUT is not within it, 3 a FLAW, 4 a CUT that was made;");
        c.desk = x;
        c.due("no LEAF, and not within", x.why(0, 1, 3, -1, -1), 1);
        c.due("no LEAF ahead of LEAF 0", x.why(0, 1, -1, 0, 0), 1);
        c.due("not within, and a CUT", x.why(0, 1, 0, -1, 0), 2);
        c.due("not within, and a FLAW", x.why(0, 1, 1, 0, -1), 2);
        x.flaw(1, 0, 0, 0, 1, 1);
        c.due("a FLAW, and a CUT", x.why(0, 1, 0, 0, 0), 3);
        c.due("a CUT alone", x.why(0, 1, 0, 0, 1), 4);
        document.says("if of none, 5 TONES.");
        c.desk = x;
        x.tone(1, 50, 1);
        c.door(1, 1, 1, 0, "1|2");
        c.due("TONES alone", x.why(1, 1, 0, 8, 3), 5);
        c.due("TONES and a FLAW", x.why(1, 1, 0, 0, 0), 3);
        c.due("TONES and not within", x.why(1, 1, 0, 20, 0), 2);
        c.due("TONES and no LEAF", x.why(1, 1, 1, 8, 3), 1);
        c.door(1, 1, 1, 0, "0|1");
        c.due("TONES and a CUT", x.why(1, 1, 0, 0, 4), 4);
        document.says("NONE: no such DOOR, LOG.");
        for (int d : NO_DOORS) {
            dueRefused("why(" + d + ", 0, 0, 0, 0)", -1, desk -> desk.why(d, 0, 0, 0, 0));
        }
        for (int l : NO_LOGS) {
            dueRefused("why(0, " + l + ", 0, 0, 0)", -1, desk -> desk.why(0, l, 0, 0, 0));
        }
    }

    private void whyDesk(VeneerDesk x) {
        x.log(1, 3, 20, 12, -2);
        x.flaw(1, 1, 0, 0, 3, 8);
        c.door(7, 9, 8, 0, "0");
        c.due("a CUT", x.make(7, 1), 1);
        c.door(0, 3, 3, 0, "0");
    }

    /** Promise 17. */
    private void place() {
        VeneerDesk x = document.says("The PLACE of a DOOR in a LOG: 0 LEAF, 1 height, 2 x.");
        x.log(0, 3, 20, 20, 0);
        x.log(1, 3, 20, 20, 0);
        x.flaw(0, 0, 0, 0, 20, 20);
        x.flaw(0, 1, 0, 0, 20, 4);
        x.flaw(0, 1, 0, 0, 7, 20);
        c.door(3, 5, 5, 0, "0|1");
        c.duePlace("in LOG 0", 3, 0, 1, 4, 7);
        c.duePlace("in LOG 1", 3, 1, 0, 0, 0);
        c.due("make", x.make(3, 0), 2);
        c.duePlace("of a made DOOR, with its own CUTS", 3, 0, 1, 4, 12);
        document.says("NONE when there is none, or no such DOOR, LOG, what.");
        for (int what = 0; what < 3; what++) {
            int asked = what;
            dueRefused("what " + what + " of none", -1, desk -> desk.place(1, 1, asked));
        }
        for (int what : new int[] {Integer.MIN_VALUE, -1, 3, Integer.MAX_VALUE}) {
            dueRefused("place(3, 0, " + what + ")", -1, desk -> desk.place(3, 0, what));
        }
        for (int d : NO_DOORS) {
            dueRefused("place(" + d + ", 0, 0)", -1, desk -> desk.place(d, 0, 0));
        }
        for (int l : NO_LOGS) {
            dueRefused("place(3, " + l + ", 0)", -1, desk -> desk.place(3, l, 0));
        }
    }

    /** Promise 18. */
    private void make() {
        VeneerDesk x = document.says("A DOOR that is not made is made at its PLACE in a LOG: how many CUTS;");
        x.log(0, 3, 20, 20, 0);
        x.log(1, 3, 20, 20, 0);
        x.flaw(0, 0, 0, 0, 20, 20);
        x.flaw(0, 1, 0, 0, 20, 4);
        x.flaw(0, 1, 0, 0, 7, 20);
        c.door(3, 5, 5, 0, "0|1|0");
        c.due("make", x.make(3, 0), 3);
        int[] want = {0, 1, 4, 7};
        for (int what = 6; what < 10; what++) {
            c.due("of(3, " + what + ")", x.of(3, what), want[what - 6]);
        }
        int[] cuts = {0, 2, 1};
        for (int i = 0; i < 3; i++) {
            c.due("CUTS of LEAF " + i, x.leaf(0, i, 3), cuts[i]);
            c.due("CUTS of the other LOG", x.leaf(1, i, 3), 0);
        }
        c.door(0, 1, 1, 0, "0");
        c.due("the last CUT, lower right", x.why(0, 0, 1, 13, 11), 4);
        c.due("below it", x.why(0, 0, 1, 14, 11), 0);
        c.due("right of it", x.why(0, 0, 1, 13, 12), 0);
        document.says("NONE when there is none such.");
        dueRefused("a made DOOR, in its LOG", -1, desk -> desk.make(0, 0));
        dueRefused("a made DOOR, in another LOG", -1, desk -> desk.make(2, 0));
        dueRefused("a DOOR without PLACE", -1, desk -> desk.make(1, 1));
        for (int d : NO_DOORS) {
            dueRefused("make(" + d + ", 0)", -1, desk -> desk.make(d, 0));
        }
        for (int l : NO_LOGS) {
            dueRefused("make(3, " + l + ")", -1, desk -> desk.make(3, l));
        }
    }

    /** Promise 19. */
    private void plan() {
        VeneerDesk x = document.says("PLAN: how many LOGS;");
        for (int l = 0; l < 3; l++) {
            x.log(l, 1, 10, 30 - 10 * l, 0);
        }
        c.due("make", c.door(7, 1, 10, 0, "0") + x.make(7, 0), 2);
        c.door(1, 10, 10, 0, "0");
        c.due("one DOOR", x.plan(), 1);
        c.door(2, 10, 10, 0, "0");
        c.due("two DOORS, in LOG 0", x.plan(), 1);
        c.door(3, 10, 10, 0, "0");
        c.due("three DOORS", x.plan(), 2);
        c.due("two in LOG 0 and one in LOG 1", x.planned(3), 1);
        x.flaw(0, 0, 11, 0, 10, 1);
        c.due("LOG 0 has one", x.plan(), 2);
        c.due("LOG 1 has two", x.planned(2) + x.planned(3), 2);
        x.flaw(1, 0, 15, 0, 1, 1);
        c.due("LOG 1 has one", x.plan(), 3);
        c.due("nothing is made", x.leaf(0, 0, 3) + x.leaf(1, 0, 3) + x.leaf(2, 0, 3), 1);
        c.due("nor is a DOOR", x.of(1, 6), -1);
        x = document.says("-1 there is no such DOOR, or there are more than 3;");
        x.log(0, 12, 60, 40, 0);
        c.due("none is there", x.plan(), -1);
        for (int d = 0; d < 4; d++) {
            c.door(d, 1, 1, 0, "0");
            c.due(d + 1 + " are there", x.plan(), d < 3 ? 1 : -1);
        }
        for (int d = 0; d < 4; d++) {
            x.make(d, 0);
            c.due(d + 1 + " are made", x.plan(), d < 3 ? 1 : -1);
        }
        x = document.says("-2 there is no PLAN.");
        c.door(0, 5, 5, 0, "0");
        c.due("without LOGS", x.plan(), -2);
        x.log(2, 1, 10, 10, 0);
        c.due("with one", x.plan(), 1);
        c.door(1, 11, 5, 0, "0");
        c.due("a DOOR too wide", x.plan(), -2);
        c.door(1, 10, 5, 0, "0");
        c.due("a DOOR below the other", x.plan(), 1);
        c.door(1, 10, 6, 0, "0");
        c.due("a DOOR too high, with the other", x.plan(), -2);
        c.due("nothing is made", x.leaf(2, 0, 3), 0);
    }

    /** Promise 20. */
    private void planned() {
        VeneerDesk x = document.says("The LOG of a DOOR in the latest PLAN that was told;");
        for (int l = 0; l < 3; l++) {
            x.log(l, 1, 10, 10, 0);
        }
        c.door(2, 10, 10, 0, "0");
        c.door(4, 10, 10, 0, "0");
        c.door(7, 10, 10, 0, "0");
        c.due("plan", x.plan(), 3);
        duePlanned("told", -1, -1, 0, -1, 1, -1, -1, 2);
        c.due("make(4, 0)", x.make(4, 0), 1);
        duePlanned("still the latest", -1, -1, 0, -1, 1, -1, -1, 2);
        c.due("plan", x.plan(), 2);
        duePlanned("told anew", -1, -1, 1, -1, -1, -1, -1, 2);
        x.flaw(2, 0, 0, 0, 1, 1);
        c.due("no PLAN", x.plan(), -2);
        duePlanned("the latest that was told", -1, -1, 1, -1, -1, -1, -1, 2);
        c.door(3, 1, 1, 0, "0");
        c.door(5, 1, 1, 0, "0");
        c.due("too many DOORS", x.plan(), -1);
        duePlanned("the latest that was told", -1, -1, 1, -1, -1, -1, -1, 2);
        c.door(2, 1, 1, 0, "0|1");
        x.log(2, 1, 10, 10, 0);
        duePlanned("a DOOR and a LOG are others now", -1, -1, 1, -1, -1, -1, -1, 2);
        x = document.says("NONE without.");
        duePlanned("none was told", -1, -1, -1, -1, -1, -1, -1, -1);
        c.door(0, 1, 1, 0, "0");
        c.due("no PLAN", x.plan(), -2);
        duePlanned("none was told", -1, -1, -1, -1, -1, -1, -1, -1);
        x.log(0, 1, 10, 10, 0);
        duePlanned("none was asked for", -1, -1, -1, -1, -1, -1, -1, -1);
        c.due("plan", x.plan(), 1);
        duePlanned("DOOR 0 alone", 0, -1, -1, -1, -1, -1, -1, -1);
        for (int d : new int[] {Integer.MIN_VALUE, -1, 8, Integer.MAX_VALUE}) {
            dueRefused("planned(" + d + ")", -1, desk -> desk.planned(d));
        }
    }

    private void duePlanned(String name, int... logs) {
        for (int d = 0; d < 8; d++) {
            c.due(name + ", planned(" + d + ")", c.desk.planned(d), logs[d]);
        }
    }

    /** Promise 21. */
    private void free() {
        VeneerDesk x = document.says("A made DOOR is taken back, its CUTS free again: true;");
        x.log(0, 2, 10, 10, 0);
        c.door(0, 5, 5, 0, "(0|1)/(0|1)");
        c.door(1, 5, 5, 0, "(0|1)/(0|1)");
        c.due("make(0, 0)", x.make(0, 0), 4);
        c.due("make(1, 0)", x.make(1, 0), 4);
        c.due("free(0)", x.free(0), true);
        for (int what = 6; what < 10; what++) {
            c.due("of(0, " + what + ")", x.of(0, what), -1);
        }
        c.due("its DRAWING stays", x.of(0, 0), 2);
        c.due("the other one stays made", x.of(1, 6), 0);
        c.due("CUTS of LEAF 0", x.leaf(0, 0, 3), 2);
        c.due("CUTS of LEAF 1", x.leaf(0, 1, 3), 2);
        c.door(7, 1, 1, 0, "0");
        for (int k = 0; k < 100; k++) {
            c.due("LEAF 0 at " + k, x.why(7, 0, 0, k / 10, k % 10), k % 10 < 5 ? 0 : 4);
            c.due("LEAF 1 at " + k, x.why(7, 0, 1, k / 10, k % 10), k % 10 < 5 ? 0 : 4);
        }
        c.due("make(0, 0) again", x.make(0, 0), 4);
        c.due("where it was", x.of(0, 9), 0);
        document.says("false when there is none such.");
        dueRefused("a DOOR that is not made", 0, desk -> bit(desk.free(1)));
        dueRefused("one that was made, and told anew", 0, desk -> bit(desk.free(3)));
        for (int d : NO_DOORS) {
            dueRefused("free(" + d + ")", 0, desk -> bit(desk.free(d)));
        }
        x = View.desk();
        c.due("free(2)", x.free(2), true);
        c.due("free(2) again", x.free(2), false);
    }
}
