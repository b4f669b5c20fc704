import java.util.List;

/**
 * Every number that a call is told: the least and the greatest that can be, the first that can't on
 * both sides, the least and the greatest int; and behind a call that is refused, all is as it was.
 */
public final class RangeTest {
    private static final int LOW = Integer.MIN_VALUE;
    private static final int HIGH = Integer.MAX_VALUE;
    private static final int NONE = VeneerDesk.NONE;
    /** LOG 2 is not there on the desk of View, LOG 3 on none. */
    private static final int[] NO_LOGS = {2, 3};
    /** DOORS 4 to 7 are not there on the desk of View, DOOR 8 on none. */
    private static final int[] NO_DOORS = {5, 6, 7, 8};
    private static final int[] NO_MORE = {};

    private interface Call {
        long on(VeneerDesk x, int[] a);
    }

    private final Checks c = new Checks();
    private final List<String> before = new View(View.desk()).all();
    private String name;
    private Call call;
    private int[] good;

    public static void main(String[] args) {
        RangeTest t = new RangeTest();
        t.tape();
        t.logs();
        t.flaws();
        t.leaves();
        t.boxes();
        t.doors();
        t.drawings();
        t.same();
        t.why();
        t.places();
        t.firstAndLast();
        t.c.finish();
    }

    private static int bit(boolean answer) {
        return answer ? 1 : 0;
    }

    /** Numbers with which the call is not refused, on the desk of View. */
    private void call(String newName, Call newCall, int... newGood) {
        name = newName;
        call = newCall;
        good = newGood;
        c.part(newName);
    }

    private void range(int argument, int least, int most, int refused, int... more) {
        for (int value : new int[] {least, most}) {
            long got = ask(View.desk(), argument, value);
            c.due(told(argument, value) + " is not refused with " + refused, got != refused, true);
        }
        for (int value : new int[] {least - 1, most + 1, LOW, HIGH}) {
            dueRefused(argument, value, refused);
        }
        for (int value : more) {
            dueRefused(argument, value, refused);
        }
    }

    private void dueRefused(int argument, int value, int refused) {
        VeneerDesk x = View.desk();
        c.due(told(argument, value), ask(x, argument, value), refused);
        c.dueStill(told(argument, value), new View(x).all(), before);
    }

    private long ask(VeneerDesk x, int argument, int value) {
        int[] a = good.clone();
        a[argument] = value;
        return call.on(x, a);
    }

    private String told(int argument, int value) {
        StringBuilder text = new StringBuilder(name).append('(');
        for (int k = 0; k < good.length; k++) {
            text.append(k == 0 ? "" : ", ").append(k == argument ? value : good[k]);
        }
        return text.append(')').toString();
    }

    private void tape() {
        call("end", (x, a) -> bit(x.end(a[0])), 2);
        range(0, 0, 3, 0, 20, 400, 401);
    }

    private void logs() {
        call("log", (x, a) -> bit(x.log(a[0], a[1], a[2], a[3], a[4])), 1, 4, 30, 20, 1);
        range(0, 0, 2, 0);
        range(1, 1, 12, 0);
        range(2, 10, 60, 0);
        range(3, 10, 40, 0, 0);
        range(4, -2, 2, 0);
        call("tone", (x, a) -> bit(x.tone(a[0], a[1], a[2])), 0, 30, 1);
        range(0, 0, 1, 0, NO_LOGS);
        range(1, 0, 100, 0);
        range(2, -5, 5, 0);
    }

    private void flaws() {
        call("flaw", (x, a) -> x.flaw(a[0], a[1], a[2], a[3], a[4], a[5]), 0, 1, 9, 9, 9, 9);
        range(0, 0, 1, NONE, NO_LOGS);
        range(1, 0, 2, NONE, 11, 12);
        range(2, 0, 100, NONE);
        range(3, 0, 100, NONE);
        range(4, 1, 100, NONE);
        range(5, 1, 100, NONE);
        // The latest FLAW of LOG 0 has LEAF 1 for its first; LOG 1 has none.
        call("drift", (x, a) -> bit(x.drift(a[0], a[1], a[2], a[3])), 0, 2, 3, 4);
        range(0, 0, 0, 0, NO_LOGS);
        range(1, 1, 2, 0, 11, 12);
        range(2, -20, 20, 0);
        range(3, -20, 20, 0);
    }

    private void leaves() {
        call("leaf", (x, a) -> x.leaf(a[0], a[1], a[2]), 0, 0, 0);
        range(0, 0, 1, -1000, NO_LOGS);
        range(1, 0, 2, -1000, 11, 12);
        range(2, 0, 5, -1000);
        call("leaf", (x, a) -> x.leaf(a[0], a[1], a[2]), 0, 1, 0);
        range(2, 0, 3, -1000, 5, 6);
    }

    private void boxes() {
        call("hit", (x, a) -> x.hit(a[0], a[1], a[2], a[3], a[4], a[5]), 0, 0, 1, 2, 3, 4);
        range(0, 0, 1, -2, NO_LOGS);
        range(1, 0, 2, -2, 11, 12);
        range(4, 1, 100, -2);
        range(5, 1, 100, -2);
        // LEAF 0 is 30 wide and 40 long.
        range(2, 0, 27, -3, LOW + 1, HIGH - 3);
        range(3, 0, 36, -3, LOW + 1, HIGH - 4);
        dueRefused(4, 30, -3);
        dueRefused(4, 100, -3);
        dueRefused(5, 39, -3);
        dueRefused(5, 100, -3);
        c.due("a box up to the right side", ask(View.desk(), 4, 29), 0);
        c.due("a box up to the lower side", ask(View.desk(), 5, 38), NONE);
    }

    private void doors() {
        call("door", (x, a) -> x.door(a[0], a[1], a[2], a[3]), 3, 5, 6, 7);
        range(0, 0, 7, -2);
        range(1, 1, 60, -2);
        range(2, 1, 60, -2);
        range(3, 0, 200, -2);
        call("fault", (x, a) -> x.fault(a[0]), 0);
        range(0, 0, 1, NONE, 3);
    }

    private void drawings() {
        // DOOR 0 is made, 2 wide and 1 high; DOOR 1 is 2 wide and high.
        call("of", (x, a) -> x.of(a[0], a[1]), 0, 0);
        range(0, 0, 3, NONE, NO_DOORS);
        range(1, 0, 9, NONE);
        call("piece", (x, a) -> x.piece(a[0], a[1], a[2]), 0, 0, 0);
        range(0, 0, 3, NONE, NO_DOORS);
        range(1, 0, 1, NONE, 7, 8);
        range(2, 0, 0, NONE, 7, 8);
        call("joint", (x, a) -> x.joint(a[0], a[1], a[2], false), 0, 0, 0);
        range(0, 0, 1, NONE, 2, 3, 4, 5, 6, 7, 8);
        range(1, 0, 0, NONE, 2, 7, 8);
        range(2, 0, 0, NONE, 7, 8);
        call("joint down", (x, a) -> x.joint(a[0], a[1], a[2], true), 1, 0, 0);
        range(0, 1, 2, NONE, 3, 4, 5, 6, 7, 8);
        range(1, 0, 1, NONE, 7, 8);
        range(2, 0, 0, NONE, 2, 7, 8);
    }

    private void same() {
        call("same", (x, a) -> x.same(a[0], a[1], a[2]), 1, 2, 0);
        range(0, 0, 3, NONE, NO_DOORS);
        range(1, 0, 3, NONE, NO_DOORS);
        range(2, 0, 2, NONE);
    }

    private void why() {
        // DOOR 1 has offsets 0 to 2, LOG 0 three LEAVES: 30 to 32 wide, 40 long, two CUTS high each.
        call("why", (x, a) -> x.why(a[0], a[1], a[2], a[3], a[4]), 3, 0, 0, 10, 10);
        range(0, 0, 3, NONE, NO_DOORS);
        range(1, 0, 1, NONE, NO_LOGS);
        range(2, 0, 2, 1, 11, 12, LOW + 1, HIGH - 1);
        range(3, 0, 39, 2, 59, 60, LOW + 1, HIGH - 1);
        range(4, 0, 29, 2, 31, 61, 62, 63, 64, LOW + 1, HIGH - 1);
        call("why", (x, a) -> x.why(a[0], a[1], a[2], a[3], a[4]), 1, 0, 0, 10, 10);
        range(2, 0, 0, 1, 2, -2, HIGH - 1, HIGH - 2);
        range(3, 0, 30, 2, LOW + 5, HIGH - 4, HIGH - 5, HIGH - 9);
        range(4, 0, 26, 2, LOW + 4, HIGH - 3, HIGH - 4);
    }

    private void places() {
        call("place", (x, a) -> x.place(a[0], a[1], a[2]), 3, 0, 0);
        range(0, 0, 3, NONE, NO_DOORS);
        range(1, 0, 1, NONE, NO_LOGS);
        range(2, 0, 2, NONE);
        // DOORS 1 and 3 wait.
        call("make", (x, a) -> x.make(a[0], a[1]), 3, 0);
        range(0, 3, 3, NONE, 0, 5, 6, 7, 8, -1);
        range(1, 0, 1, NONE, NO_LOGS);
        call("planned", (x, a) -> x.planned(a[0]), 3);
        range(0, 3, 3, NONE, 0, 5, 6, 7, 8, -1);
        range(0, 1, 1, NONE);
        // DOORS 0 and 2 are made.
        call("free", (x, a) -> bit(x.free(a[0])), 0);
        range(0, 0, 0, 0, 4, 5, 6, 7, 8);
        range(0, 2, 2, 0);
    }

    /** LOGS 0 .. 2, DOORS 0 .. 7: the last ones are there as well as the first ones, in every call. */
    private void firstAndLast() {
        for (int l : new int[] {0, 2}) {
            for (int d : new int[] {0, 7}) {
                everyCall(c.part("LOG " + l + ", DOOR " + d), l, d);
            }
        }
    }

    private void everyCall(VeneerDesk x, int l, int d) {
        c.due("log", x.log(l, 12, 60, 40, 2), true);
        c.due("tone", x.tone(l, 100, -5), true);
        c.due("flaw", x.flaw(l, 11, 0, 0, 1, 1), 0);
        c.due("drift", x.drift(l, 11, 20, -20), true);
        c.due("leaf", x.leaf(l, 11, 0), 62);
        c.due("hit", x.hit(l, 11, 0, 0, 62, 60), 0);
        c.due("door", c.door(d, 40, 60, 10, "0|1"), 2);
        c.due("of", x.of(d, 2), 1);
        c.due("piece", x.piece(d, 1, 0), 1);
        c.due("joint", x.joint(d, 0, 0, false), 1);
        c.due("same", x.same(d, d, 0), 1);
        c.due("why", x.why(d, l, 10, 0, 0), 3);
        c.due("why in the last LEAF, beside its FLAW", x.why(d, l, 10, 0, 1), 0);
        c.due("place", x.place(d, l, 0), 0);
        c.due("plan", x.plan(), 1);
        c.due("planned", x.planned(d), l);
        c.due("make", x.make(d, l), 2);
        c.due("of, LOG", x.of(d, 6), l);
        c.due("free", x.free(d), true);
        c.due("free again", x.free(d), false);
    }
}
