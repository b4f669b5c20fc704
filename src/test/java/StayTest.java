import java.util.List;
import java.util.function.ToLongFunction;

/**
 * Calls that are refused for what the desk holds: nothing there yet, full, made already, no PLACE;
 * and what stays as it was behind them, and behind calls that only ask.
 */
public final class StayTest {
    private static final int BLANKS = 0x20202020;

    private final Checks c = new Checks();

    public static void main(String[] args) {
        StayTest t = new StayTest();
        t.nothingThereYet();
        t.tapeFull();
        t.tapeEnded();
        t.logStays();
        t.toneStays();
        t.flawsFull();
        t.noFlawToDrift();
        t.driftToldAgain();
        t.doorWithFault();
        t.doorWithWrongNumber();
        t.faultOfTheLatest();
        t.doorToldAnew();
        t.logToldAnew();
        t.makeRefused();
        t.freeRefused();
        t.planRefused();
        t.askingChangesNothing();
        t.c.finish();
    }

    private static int bit(boolean answer) {
        return answer ? 1 : 0;
    }

    private static List<String> seen(VeneerDesk x) {
        return new View(x).all();
    }

    private static int blanks(VeneerDesk x) {
        return x.feed(BLANKS, BLANKS, BLANKS, BLANKS, BLANKS);
    }

    /** A call on a new desk that is refused, or only asks: the desk stays a new one. */
    private void dueNew(String call, long want, ToLongFunction<VeneerDesk> asked) {
        VeneerDesk x = new VeneerDesk();
        c.due(call, asked.applyAsLong(x), want);
        c.dueStill(call, seen(x), seen(new VeneerDesk()));
    }

    /** The same on the desk of View. */
    private void dueStill(String call, long want, ToLongFunction<VeneerDesk> asked) {
        VeneerDesk x = View.desk();
        c.due(call, asked.applyAsLong(x), want);
        c.dueStill(call, seen(x), seen(View.desk()));
    }

    /** "No LOGS, no DOORS." */
    private void nothingThereYet() {
        c.part("nothing there yet");
        for (int k = 0; k < 3; k++) {
            int l = k;
            dueNew("tone(" + l + ")", 0, x -> bit(x.tone(l, 0, 0)));
            dueNew("flaw(" + l + ")", -1, x -> x.flaw(l, 0, 0, 0, 1, 1));
            dueNew("drift(" + l + ")", 0, x -> bit(x.drift(l, 0, 0, 0)));
            dueNew("hit(" + l + ")", -2, x -> x.hit(l, 0, 0, 0, 1, 1));
            for (int what = 0; what < 6; what++) {
                int asked = what;
                dueNew("leaf(" + l + ", 0, " + asked + ")", -1000, x -> x.leaf(l, 0, asked));
            }
        }
        for (int k = 0; k < 8; k++) {
            int d = k;
            dueNew("piece(" + d + ")", -1, x -> x.piece(d, 0, 0));
            dueNew("joint(" + d + ")", -1, x -> x.joint(d, 0, 0, false));
            dueNew("joint(" + d + ") down", -1, x -> x.joint(d, 0, 0, true));
            dueNew("same(" + d + ")", -1, x -> x.same(d, d, 0));
            dueNew("why(" + d + ")", -1, x -> x.why(d, 0, 0, 0, 0));
            dueNew("place(" + d + ")", -1, x -> x.place(d, 0, 0));
            dueNew("make(" + d + ")", -1, x -> x.make(d, 0));
            dueNew("planned(" + d + ")", -1, x -> x.planned(d));
            dueNew("free(" + d + ")", 0, x -> bit(x.free(d)));
            for (int what = 0; what < 10; what++) {
                int asked = what;
                dueNew("of(" + d + ", " + asked + ")", -1, x -> x.of(d, asked));
            }
        }
        dueNew("plan()", -1, VeneerDesk::plan);
        dueNew("fault(0)", 0, x -> x.fault(0));
        dueNew("fault(1)", -1, x -> x.fault(1));
        dueNew("end(0)", 1, x -> bit(x.end(0)));
        dueNew("end(1)", 0, x -> bit(x.end(1)));
        dueNew("a first feed, ended", 20, x -> {
            int fed = blanks(x);
            x.end(0);
            return fed;
        });
        oneSideThere();
    }

    /** A LOG without DOORS, and a DOOR without LOGS. */
    private void oneSideThere() {
        VeneerDesk x = c.part("a LOG alone");
        x.log(0, 2, 20, 20, 0);
        c.due("why", x.why(0, 0, 0, 0, 0), -1);
        c.due("place", x.place(0, 0, 0), -1);
        c.due("make", x.make(0, 0), -1);
        c.due("plan", x.plan(), -1);
        x = c.part("a DOOR alone");
        c.door(0, 1, 1, 0, "0");
        c.due("why", x.why(0, 0, 0, 0, 0), -1);
        c.due("place", x.place(0, 0, 0), -1);
        c.due("make", x.make(0, 0), -1);
        c.due("plan", x.plan(), -2);
        c.due("of, LOG", x.of(0, 6), -1);
    }

    /** feed: "how many there are; NONE, doing nothing, if there would be more than 400." */
    private void tapeFull() {
        for (int length = 378; length <= 400; length++) {
            VeneerDesk x = c.part("a tape of " + length);
            VeneerDesk other = new VeneerDesk();
            fill(x, length);
            fill(other, length);
            boolean room = length <= 380;
            c.due("feed", x.feed(-1, -1, -1, -1, -1), room ? length + 20 : -1);
            c.due("end(length)", x.end(length), true);
            c.dueStill("feed and end", seen(x), seen(other));
        }
        VeneerDesk x = c.part("a tape that is full");
        fill(x, 400);
        for (int n = 0; n < 3; n++) {
            c.due("feed", x.feed(-1, -1, -1, -1, -1), -1);
        }
        c.due("its first and last bytes", x.door(0, 1, 1, 0), 2);
        c.due("the first", x.piece(0, 0, 0), 1);
        c.due("the last", x.piece(0, 1, 0), 2);
        c.due("there is room again", blanks(x), 20);
    }

    /** "1|", blanks, and "2" for the last byte. */
    private static void fill(VeneerDesk x, int length) {
        StringBuilder text = new StringBuilder("1|");
        while (text.length() < length - 1) {
            text.append(' ');
        }
        Checks.tape(x, text.append('2').toString());
    }

    /** end: "false, doing nothing, if it has not so many, or n is below 0." */
    private void tapeEnded() {
        VeneerDesk x = c.part("end");
        c.due("end(0) of an empty tape", x.end(0), true);
        c.due("end(1) of an empty tape", x.end(1), false);
        x.feed(0x317C3233, BLANKS, BLANKS, BLANKS, BLANKS);
        c.due("end(21)", x.end(21), false);
        c.due("end(-1)", x.end(-1), false);
        c.due("end(20)", x.end(20), true);
        c.due("end(3)", x.end(3), true);
        c.due("end(4)", x.end(4), false);
        c.due("end(20) again", x.end(20), false);
        c.due("1|2", x.door(0, 1, 1, 0), 2);
        c.due("end(1) when it has gone", x.end(1), false);
        c.due("end(0) when it has gone", x.end(0), true);
        c.due("what was fed before is gone", x.door(0, 1, 1, 0), -1);
        c.due("a text without bytes", x.fault(1), 0);
    }

    /** log: "false when something can't be." */
    private void logStays() {
        c.part("log");
        dueStill("log(0, 0, 40, 30, 1)", 0, x -> bit(x.log(0, 0, 40, 30, 1)));
        dueStill("log(0, 3, 40, 30, 3), wrong in its last number", 0, x -> bit(x.log(0, 3, 40, 30, 3)));
        dueStill("log(1, 13, 61, 41, -3), wrong in all", 0, x -> bit(x.log(1, 13, 61, 41, -3)));
        dueStill("log(2, 3, 9, 30, 1), none is there", 0, x -> bit(x.log(2, 3, 9, 30, 1)));
    }

    /** tone: "(0 and 0 at first): true; false when that can't be." */
    private void toneStays() {
        c.part("tone");
        dueStill("a TONE that can be, darkens that can't", 0, x -> bit(x.tone(0, 20, 6)));
        dueStill("darkens that can be, a TONE that can't", 0, x -> bit(x.tone(0, 101, 3)));
        dueStill("a LOG that is not there", 0, x -> bit(x.tone(2, 20, 3)));
        VeneerDesk x = c.part("TONE at first");
        x.log(0, 12, 10, 10, 0);
        c.due("of the first LEAF", x.leaf(0, 0, 1), 0);
        c.due("of the last LEAF", x.leaf(0, 11, 1), 0);
        x.tone(0, 100, 5);
        x.log(0, 12, 10, 10, 0);
        c.due("of a new LOG's last LEAF", x.leaf(0, 11, 1), 0);
    }

    /** flaw: "NONE when that can't be, or there are 10." */
    private void flawsFull() {
        VeneerDesk x = tenFlaws("ten FLAWS");
        c.due("an eleventh", x.flaw(0, 1, 7, 7, 1, 1), -1);
        c.due("and once more", x.flaw(0, 1, 7, 7, 1, 1), -1);
        c.dueStill("an eleventh", seen(x), seen(tenFlaws("ten FLAWS")));
        x = tenFlaws("ten FLAWS, the tenth drifts");
        x.flaw(0, 1, 7, 7, 1, 1);
        c.due("drift", x.drift(0, 2, 0, 0), true);
        c.due("the tenth is in LEAF 2", x.hit(0, 2, 9, 0, 1, 1), 9);
        c.due("the eleventh is nowhere", x.hit(0, 1, 7, 7, 1, 1), -1);
        c.due("another LOG is not full", x.flaw(1, 0, 0, 0, 1, 1), 0);
        c.due("the LOG anew", x.log(0, 3, 20, 20, 0), true);
        for (int n = 0; n < 10; n++) {
            c.due("flaw " + n + " of the new LOG", x.flaw(0, 0, n, 0, 1, 1), n);
        }
        c.due("its eleventh", x.flaw(0, 0, 0, 0, 1, 1), -1);
    }

    private VeneerDesk tenFlaws(String name) {
        VeneerDesk x = c.part(name);
        x.log(0, 3, 20, 20, 0);
        x.log(1, 3, 20, 20, 0);
        for (int n = 0; n < 10; n++) {
            c.due("flaw " + n, x.flaw(0, 0, n, 0, 1, 1), n);
        }
        return x;
    }

    /** drift: "false when there is none, or something can't be (last below its first LEAF)." */
    private void noFlawToDrift() {
        c.part("drift");
        dueStill("LOG 1 has no FLAW", 0, x -> bit(x.drift(1, 1, 0, 0)));
        dueStill("a LOG that is not there", 0, x -> bit(x.drift(2, 1, 0, 0)));
        dueStill("last below the first LEAF", 0, x -> bit(x.drift(0, 0, 1, 1)));
        VeneerDesk x = c.part("drift of a new LOG");
        x.log(0, 3, 20, 20, 0);
        x.flaw(0, 0, 0, 0, 1, 1);
        c.due("drift", x.drift(0, 0, 0, 0), true);
        x.log(0, 3, 20, 20, 0);
        c.due("drift of the LOG before's FLAW", x.drift(0, 0, 0, 0), false);
        c.due("a FLAW that can't be", x.flaw(0, 3, 0, 0, 1, 1), -1);
        c.due("drift behind it", x.drift(0, 2, 0, 0), false);
        x.flaw(0, 2, 0, 0, 1, 1);
        c.due("last 1, first 2", x.drift(0, 1, 0, 0), false);
        c.due("last 2, first 2", x.drift(0, 2, 0, 0), true);
        c.due("last 3 of three LEAVES", x.drift(0, 3, 0, 0), false);
    }

    /** The latest FLAW alone drifts, as it was told last. */
    private void driftToldAgain() {
        VeneerDesk x = c.part("drift told again");
        x.log(0, 4, 20, 20, 0);
        x.flaw(0, 0, 1, 1, 1, 1);
        x.drift(0, 3, 0, 0);
        x.flaw(0, 1, 5, 5, 1, 1);
        x.drift(0, 3, 1, 0);
        c.due("at first", x.hit(0, 3, 7, 5, 1, 1), 1);
        c.due("drift that can't be", x.drift(0, 3, 2, 21), false);
        c.due("as at first", x.hit(0, 3, 7, 5, 1, 1), 1);
        c.due("drift again", x.drift(0, 2, 2, 2), true);
        c.due("LEAF 1, where it begins", x.hit(0, 1, 5, 5, 1, 1), 1);
        c.due("LEAF 2, from there and not from where it was", x.hit(0, 2, 7, 7, 1, 1), 1);
        c.due("LEAF 2, no more at its first drift", x.hit(0, 2, 6, 5, 1, 1), -1);
        c.due("LEAF 3, no more", x.leaf(0, 3, 2), 1);
        c.due("drift into its first LEAF alone", x.drift(0, 1, 2, 2), true);
        c.due("LEAF 2, no more", x.leaf(0, 2, 2), 1);
        c.due("the FLAW before drifts as it did", x.hit(0, 3, 1, 1, 1, 1), 0);
    }

    /** door: "-1 with a FAULT (the DOOR before stays)"; the tape goes. */
    private void doorWithFault() {
        List<String> before = new View(View.desk()).allButTapeAndFaults();
        for (int d = 0; d < 8; d++) {
            for (String text : new String[] {"", "0|", "8x8/8x8/(8x8|8)", "(0|1)/2", "(2|3)/(4|5)0"}) {
                VeneerDesk x = View.desk();
                x.end(0);
                Checks.tape(x, text);
                c.part("a FAULT in \"" + text + "\" for DOOR " + d);
                c.due("door", x.door(d, 60, 60, 200), -1);
                View view = new View(x);
                c.dueStill("door", view.allButTapeAndFaults(), before);
                c.due("the tape goes", view.tape.get(0).equals("bytes on the tape = 0"), true);
                c.due("the FAULT is the latest", view.faults.get(0).equals("fault(0) = 0"), false);
            }
        }
    }

    /** door: "-2 when a number can't be (the tape stays)"; no DRAWING is read. */
    private void doorWithWrongNumber() {
        c.part("a number that can't be");
        dueStill("DOOR 8", -2, x -> x.door(8, 1, 1, 0));
        dueStill("DOOR -1", -2, x -> x.door(-1, 1, 1, 0));
        dueStill("0 wide", -2, x -> x.door(0, 0, 1, 0));
        dueStill("61 high", -2, x -> x.door(1, 1, 61, 0));
        dueStill("TONES 201", -2, x -> x.door(2, 1, 1, 201));
        dueStill("TONES -1", -2, x -> x.door(4, 1, 1, -1));
        VeneerDesk x = c.part("a number that can't be, and a FAULT");
        Checks.tape(x, "0||");
        c.due("the number is first", x.door(0, 61, 1, 0), -2);
        c.due("no FAULT was read", x.fault(0), 0);
        c.due("nor its place", x.fault(1), -1);
        c.due("then the FAULT", x.door(0, 60, 1, 0), -1);
        c.due("it was read", x.fault(0), 1);
        c.due("its place", x.fault(1), 2);
    }

    /** fault: "Of the latest DRAWING that was read: .. (0; 0 without, and ahead of any) .. (1; NONE without)." */
    private void faultOfTheLatest() {
        VeneerDesk x = c.part("fault");
        dueFault(x, "ahead of any", 0, -1);
        c.door(0, 1, 1, 0, "0|0/0");
        dueFault(x, "of a FAULT", 2, 1);
        c.door(8, 1, 1, 0, "9x0");
        dueFault(x, "behind a number that can't be", 2, 1);
        x.door(3, 1, 1, 0);
        dueFault(x, "of another FAULT", 3, 1);
        c.door(3, 1, 1, 0, "0");
        dueFault(x, "without", 0, -1);
        x.door(3, 1, 1, 0);
        dueFault(x, "of a text without bytes", 1, 0);
        x.free(3);
        x.make(3, 0);
        x.plan();
        x.end(0);
        blanks(x);
        dueFault(x, "behind other calls", 1, 0);
        x.log(0, 1, 10, 10, 0);
        dueFault(x, "behind a new LOG", 1, 0);
    }

    private void dueFault(VeneerDesk x, String name, int kind, int place) {
        c.due(name + ", fault(0)", x.fault(0), kind);
        c.due(name + ", fault(1)", x.fault(1), place);
    }

    /** door: "(what it was, and that it was made, goes; its CUTS stay lost)". */
    private void doorToldAnew() {
        VeneerDesk x = c.part("a made DOOR told anew");
        x.log(0, 1, 20, 10, 0);
        c.door(0, 10, 10, 0, "0");
        c.due("make", x.make(0, 0), 1);
        c.due("told anew, just the same", c.door(0, 10, 10, 0, "0"), 1);
        for (int what = 6; what < 10; what++) {
            c.due("of(0, " + what + ")", x.of(0, what), -1);
        }
        c.due("its CUT stays", x.leaf(0, 0, 3), 1);
        c.due("free", x.free(0), false);
        c.due("its CUT stays", x.why(0, 0, 0, 0, 0), 4);
        c.due("make below it", x.make(0, 0), 1);
        c.due("height", x.of(0, 8), 10);
        c.due("a smaller one", c.door(0, 1, 1, 0, "0"), 1);
        c.due("the LEAF is full", x.make(0, 0), -1);
        c.due("CUTS, both lost", x.leaf(0, 0, 3), 2);
        c.due("free", x.free(0), false);
        c.due("CUTS, both lost", x.leaf(0, 0, 3), 2);
        c.due("a new LOG", x.log(0, 1, 20, 10, 0), true);
        c.due("no CUTS", x.leaf(0, 0, 3), 0);
        c.due("make", x.make(0, 0), 1);
    }

    /** log: "without FLAWS and CUTS (DOORS made of the one before are no more made)". */
    private void logToldAnew() {
        VeneerDesk x = View.desk();
        c.part("a LOG told anew, just the same");
        c.due("log", x.log(0, 3, 40, 30, 1), true);
        for (int i = 0; i < 3; i++) {
            c.due("TONE of LEAF " + i, x.leaf(0, i, 1), 0);
            c.due("FLAWS of LEAF " + i, x.leaf(0, i, 2), 0);
            c.due("CUTS of LEAF " + i, x.leaf(0, i, 3), 0);
        }
        for (int what = 6; what < 10; what++) {
            c.due("of(0, " + what + ")", x.of(0, what), -1);
        }
        c.due("free(0)", x.free(0), false);
        c.due("DOOR 0 keeps its DRAWING", x.of(0, 0), 2);
        c.due("DOOR 2 stays made of LOG 1", x.of(2, 6), 1);
        c.due("LOG 1 keeps its CUTS", x.leaf(1, 0, 3), 2);
        c.due("LOG 1 keeps its TONE", x.leaf(1, 0, 1), 7);
        c.due("planned(1) stays", x.planned(1), 0);
        c.due("the tape stays", x.end(3), true);
        c.due("the FAULT stays", x.fault(0), 2);
        c.due("three DOORS wait", x.plan(), 1);
        c.due("DOOR 0 is made again", x.make(0, 0), 2);
        c.due("at the first PLACE of all", x.of(0, 9), 0);
        c.due("fewer LEAVES", x.log(0, 1, 40, 30, 1), true);
        c.due("LEAF 1 is no more", x.leaf(0, 1, 0), -1000);
        c.due("nor can it be cut", x.make(0, 0), -1);
        c.due("more LEAVES", x.log(0, 2, 40, 30, 1), true);
        c.due("LEAF 1 has no CUT", x.leaf(0, 1, 3), 0);
    }

    /** make: "A DOOR that is not made ..; NONE when there is none such." */
    private void makeRefused() {
        c.part("make");
        dueStill("a made DOOR in its LOG", -1, x -> x.make(0, 0));
        dueStill("a made DOOR in another LOG, where it has a PLACE", -1, x -> x.make(2, 0));
        dueStill("a DOOR without PLACE", -1, x -> x.make(1, 1));
        dueStill("a DOOR that is not there", -1, x -> x.make(4, 0));
        dueStill("a LOG that is not there", -1, x -> x.make(3, 2));
        VeneerDesk x = c.part("make until the LEAF is full");
        x.log(0, 1, 10, 12, 0);
        for (int d = 0; d < 8; d++) {
            c.door(d, 3, 5, 0, "0");
            c.due("make " + d, x.make(d, 0), 1);
            c.due("CUTS", x.leaf(0, 0, 3), d + 1);
            c.due("height", x.of(d, 8), d < 4 ? 0 : 5);
            c.due("x", x.of(d, 9), 3 * (d % 4));
        }
        c.door(0, 1, 1, 0, "0");
        c.due("no room for the least PIECE", x.make(0, 0), -1);
        c.due("free(5)", x.free(5), true);
        c.due("room again", x.make(0, 0), 1);
        c.due("its height", x.of(0, 8), 5);
        c.due("its x", x.of(0, 9), 3);
        c.due("DOOR 5 has no room now", x.make(5, 0), -1);
    }

    /** free: "A made DOOR ..; false when there is none such." */
    private void freeRefused() {
        c.part("free");
        dueStill("a DOOR that is not made", 0, x -> bit(x.free(1)));
        dueStill("one that was made and told anew", 0, x -> bit(x.free(3)));
        dueStill("a DOOR that is not there", 0, x -> bit(x.free(4)));
        dueStill("free and make again at the same PLACE", 2, x -> x.free(0) ? x.make(0, 0) : 0);
        VeneerDesk x = View.desk();
        c.due("free(2)", x.free(2), true);
        c.due("free(2) again", x.free(2), false);
        c.due("no CUTS", x.leaf(1, 0, 3), 0);
        c.due("CUTS of the other LOG stay", x.leaf(0, 0, 3), 2);
        c.due("DOOR 0 stays made", x.of(0, 6), 0);
    }

    /** plan: "-1 there is no such DOOR, or there are more than 3; -2 there is no PLAN." */
    private void planRefused() {
        c.part("plan");
        dueStill("the same PLAN again", 1, VeneerDesk::plan);
        VeneerDesk x = fiveDoors();
        c.due("four wait", x.plan(), -1);
        c.dueStill("plan", seen(x), seen(fiveDoors()));
        x = tooHigh();
        c.due("one has no PLACE", x.plan(), -2);
        c.dueStill("plan", seen(x), seen(tooHigh()));
        x = allMade();
        c.due("all are made", x.plan(), -1);
        c.dueStill("plan", seen(x), seen(allMade()));
    }

    private static VeneerDesk fiveDoors() {
        VeneerDesk x = View.desk();
        told(x, 5, 1, "0");
        told(x, 6, 1, "0");
        return x;
    }

    private static VeneerDesk tooHigh() {
        VeneerDesk x = View.desk();
        told(x, 4, 41, "0");
        return x;
    }

    private static VeneerDesk allMade() {
        VeneerDesk x = View.desk();
        x.make(1, 0);
        x.make(3, 0);
        return x;
    }

    private static void told(VeneerDesk x, int d, int high, String text) {
        x.end(0);
        Checks.tape(x, text);
        x.door(d, 1, high, 0);
    }

    private void askingChangesNothing() {
        c.part("asking");
        dueStill("leaf", 50, x -> x.leaf(0, 0, 1));
        dueStill("hit", 1, x -> x.hit(0, 1, 20, 30, 4, 4));
        dueStill("fault", 1, x -> x.fault(1));
        dueStill("of", 1, x -> x.of(0, 3));
        dueStill("piece", 17, x -> x.piece(0, 1, 0));
        dueStill("joint", 2, x -> x.joint(0, 0, 0, false));
        dueStill("same", 0, x -> x.same(0, 3, 1));
        dueStill("why", 4, x -> x.why(3, 0, 0, 0, 0));
        dueStill("place", 1, x -> x.place(3, 0, 2));
        dueStill("planned", 0, x -> x.planned(3));
    }
}
