import java.util.List;

/** Counts and prints the answers that are not as due; holds one new desk after another. */
final class Checks {
    /** A desk is promised for so many calls. */
    static final int MOST_CALLS = 512;

    VeneerDesk desk = new VeneerDesk();
    private String part = "";
    private int asked;
    private int wrong;

    /** Begins a part of the test with a new desk. */
    VeneerDesk part(String name) {
        part = name;
        desk = new VeneerDesk();
        return desk;
    }

    /** Goes on with the part, with a new desk. */
    VeneerDesk anew() {
        desk = new VeneerDesk();
        return desk;
    }

    void due(String call, long got, long want) {
        asked++;
        if (got != want) {
            wrong++;
            System.out.println(part + ": " + call + " answered " + got + ", due is " + want);
        }
    }

    void due(String call, boolean got, boolean want) {
        due(call, got ? 1 : 0, want ? 1 : 0);
    }

    /** What is seen of a desk behind a call must be what is seen without that call. */
    void dueStill(String call, List<String> seen, List<String> before) {
        asked++;
        for (int k = 0; k < Math.max(seen.size(), before.size()); k++) {
            String now = k < seen.size() ? seen.get(k) : "nothing";
            String then = k < before.size() ? before.get(k) : "nothing";
            if (!now.equals(then)) {
                wrong++;
                System.out.println(part + ": behind " + call + " there is " + now + ", but without it " + then);
                return;
            }
        }
    }

    /** Feeds a text and cuts the tape at its end. */
    void tape(String text) {
        tape(desk, text);
    }

    static void tape(VeneerDesk desk, String text) {
        int start = 0;
        int[] numbers = new int[5];
        while (start < text.length()) {
            for (int k = 0; k < 20; k++) {
                int sign = start + k < text.length() ? text.charAt(start + k) : ' ';
                numbers[k / 4] = numbers[k / 4] << 8 | sign;
            }
            desk.feed(numbers[0], numbers[1], numbers[2], numbers[3], numbers[4]);
            start += 20;
        }
        desk.end(text.length());
    }

    int door(int d, int wide, int high, int tones, String text) {
        tape(text);
        return desk.door(d, wide, high, tones);
    }

    /** A text that must have a FAULT. */
    void dueFault(String text, int kind, int place) {
        String call = "door of \"" + text.replace("\n", "\\n") + "\"";
        due(call, door(0, 1, 1, 0, text), -1);
        due(call + ", fault(0)", desk.fault(0), kind);
        due(call + ", fault(1)", desk.fault(1), place);
    }

    /** A text that must give these PIECES, row by row. */
    void duePieces(String text, int wide, int... pieces) {
        String call = "door of \"" + text.replace("\n", "\\n") + "\"";
        due(call, door(0, 1, 1, 0, text), pieces.length);
        due(call + ", fault(0)", desk.fault(0), 0);
        due(call + ", fault(1)", desk.fault(1), -1);
        due(call + ", of(0, 0)", desk.of(0, 0), wide);
        due(call + ", of(0, 1)", desk.of(0, 1), pieces.length / wide);
        for (int k = 0; k < pieces.length; k++) {
            due(call + ", piece " + k, desk.piece(0, k % wide, k / wide), pieces[k]);
        }
    }

    void duePlace(String call, int d, int l, int leaf, int height, int x) {
        due(call + " LEAF", desk.place(d, l, 0), leaf);
        due(call + " height", desk.place(d, l, 1), height);
        due(call + " x", desk.place(d, l, 2), x);
    }

    /** Prints the outcome and ends with exit code 1 if an answer was wrong. */
    void finish() {
        if (asked == 0) {
            wrong++;
        }
        System.out.println(asked + " answers asked, " + wrong + " not as due");
        if (wrong != 0) {
            System.exit(1);
        }
    }
}
