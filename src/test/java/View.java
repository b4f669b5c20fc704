import java.util.ArrayList;
import java.util.List;

/**
 * All that a desk answers, in groups, so that a desk can be compared with one of the same calls but
 * for a last one. Looking uses the desk up: the tape is read and FLAWS are added at the end.
 */
final class View {
    final List<String> logs = new ArrayList<>();
    final List<String> doors = new ArrayList<>();
    final List<String> plans = new ArrayList<>();
    final List<String> faults = new ArrayList<>();
    final List<String> tape = new ArrayList<>();

    View(VeneerDesk x) {
        for (int l = 0; l < 3; l++) {
            seeLog(x, l);
        }
        for (int d = 0; d < 8; d++) {
            seeDoor(x, d);
            plans.add("planned(" + d + ") = " + x.planned(d));
        }
        faults.add("fault(0) = " + x.fault(0));
        faults.add("fault(1) = " + x.fault(1));
        for (int l = 0; l < 3; l++) {
            logs.add("the next FLAW of LOG " + l + " = " + x.flaw(l, 0, 0, 0, 1, 1));
        }
        seeTape(x);
    }

    private void seeLog(VeneerDesk x, int l) {
        int leaves = x.leaf(l, 0, 4);
        logs.add("LEAVES of LOG " + l + " = " + leaves);
        logs.add("LENGTH of LOG " + l + " = " + x.leaf(l, 0, 5));
        for (int i = 0; i < leaves; i++) {
            for (int what = 0; what < 4; what++) {
                logs.add("leaf(" + l + ", " + i + ", " + what + ") = " + x.leaf(l, i, what));
            }
            for (int k = 4; k < 8; k++) {
                logs.add("hit(" + l + ", " + i + ", " + k + ", 0, 1, 10) = " + x.hit(l, i, k, 0, 1, 10));
            }
        }
    }

    private void seeDoor(VeneerDesk x, int d) {
        for (int what = 0; what < 10; what++) {
            doors.add("of(" + d + ", " + what + ") = " + x.of(d, what));
        }
        for (int k = 0; k < 4; k++) {
            doors.add("piece(" + d + ", " + k % 2 + ", " + k / 2 + ") = " + x.piece(d, k % 2, k / 2));
        }
        for (int l = 0; l < 3; l++) {
            for (int what = 0; what < 3; what++) {
                doors.add("place(" + d + ", " + l + ", " + what + ") = " + x.place(d, l, what));
            }
            doors.add("why(" + d + ", " + l + ", 0, 33, 20) = " + x.why(d, l, 0, 33, 20));
        }
    }

    private void seeTape(VeneerDesk x) {
        int length = x.feed(0, 0, 0, 0, 0) - 20;
        if (length < 0) {
            length = 400;
            while (length > 380 && !x.end(length)) {
                length--;
            }
        }
        x.end(length);
        tape.add("bytes on the tape = " + length);
        tape.add("PIECES that they tell = " + x.door(7, 1, 1, 0));
        tape.add("FAULT = " + x.fault(0) + " at " + x.fault(1));
        for (int column = 0; column < 3; column++) {
            tape.add("PIECE " + column + " = " + x.piece(7, column, 0));
        }
    }

    /** A desk with something of everything; LOG 2 and DOORS 4 to 7 are not there. */
    static VeneerDesk desk() {
        VeneerDesk x = new VeneerDesk();
        x.log(0, 3, 40, 30, 1);
        x.tone(0, 50, 2);
        x.flaw(0, 0, 5, 5, 3, 3);
        x.drift(0, 2, 1, 1);
        x.flaw(0, 1, 20, 30, 4, 4);
        x.log(1, 2, 20, 12, 0);
        x.tone(1, 7, -1);
        told(x, 0, 6, 7, 10, "0|!1");
        x.make(0, 0);
        told(x, 1, 4, 5, 20, "(0|1)/(1|2)");
        told(x, 2, 12, 10, 0, "0/0");
        x.make(2, 1);
        told(x, 3, 1, 1, 0, "0");
        x.make(3, 0);
        told(x, 3, 1, 1, 0, "~0");
        x.plan();
        told(x, 4, 1, 1, 0, "0|0/0");
        Checks.tape(x, "5|6");
        return x;
    }

    private static void told(VeneerDesk x, int d, int wide, int high, int tones, String text) {
        Checks.tape(x, text);
        x.door(d, wide, high, tones);
    }

    /** All groups in one list. */
    List<String> all() {
        List<String> all = allButTapeAndFaults();
        all.addAll(faults);
        all.addAll(tape);
        return all;
    }

    List<String> allButTapeAndFaults() {
        List<String> all = new ArrayList<>(logs);
        all.addAll(doors);
        all.addAll(plans);
        return all;
    }
}
