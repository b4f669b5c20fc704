/** Promises 4 to 9: log, tone, flaw, drift, leaf, hit. */
public final class LogTest {
    private static final int LOW = Integer.MIN_VALUE;
    private static final int HIGH = Integer.MAX_VALUE;

    public static void main(String[] args) {
        Checks c = new Checks();
        logNumbers(c);
        logIsNew(c);
        tone(c);
        flaw(c);
        drift(c);
        leaf(c);
        hit(c);
        c.finish();
    }

    private static void logNumbers(Checks c) {
        VeneerDesk x = c.part("log");
        int[][] wrong = {
            {-1, 4, 50, 30, 0}, {3, 4, 50, 30, 0}, {LOW, 4, 50, 30, 0}, {HIGH, 4, 50, 30, 0},
            {0, 0, 50, 30, 0}, {0, 13, 50, 30, 0}, {0, LOW, 50, 30, 0}, {0, HIGH, 50, 30, 0},
            {0, 4, 9, 30, 0}, {0, 4, 61, 30, 0}, {0, 4, LOW, 30, 0}, {0, 4, HIGH, 30, 0},
            {0, 4, 50, 9, 0}, {0, 4, 50, 41, 0}, {0, 4, 50, LOW, 0}, {0, 4, 50, HIGH, 0},
            {0, 4, 50, 30, -3}, {0, 4, 50, 30, 3}, {0, 4, 50, 30, LOW}, {0, 4, 50, 30, HIGH},
        };
        for (int[] w : wrong) {
            String call = "log(" + w[0] + ", " + w[1] + ", " + w[2] + ", " + w[3] + ", " + w[4] + ")";
            c.due(call, x.log(w[0], w[1], w[2], w[3], w[4]), false);
            c.due(call + " made none", x.leaf(0, 0, 0), -1000);
        }
        c.due("log(0, 1, 10, 10, -2)", x.log(0, 1, 10, 10, -2), true);
        c.due("log(1, 12, 60, 40, 2)", x.log(1, 12, 60, 40, 2), true);
        c.due("log(2, 12, 10, 10, -2)", x.log(2, 12, 10, 10, -2), true);
        c.due("LOG 0 LEAVES", x.leaf(0, 0, 4), 1);
        c.due("LOG 0 LENGTH", x.leaf(0, 0, 5), 10);
        c.due("LOG 1 LEAVES", x.leaf(1, 0, 4), 12);
        c.due("LOG 1 LENGTH", x.leaf(1, 0, 5), 60);
        c.due("LOG 1 WIDTH of LEAF 11", x.leaf(1, 11, 0), 62);
        int[] widths = {10, 8, 6, 4, 2, 1, 1, 1, 1, 1, 1, 1};
        for (int i = 0; i < 12; i++) {
            c.due("LOG 2 WIDTH of LEAF " + i, x.leaf(2, i, 0), widths[i]);
        }
        c.due("log(2, 13, ..)", x.log(2, 13, 10, 10, 0), false);
        c.due("LOG 2 stays", x.leaf(2, 0, 4), 12);
    }

    private static void logIsNew(Checks c) {
        VeneerDesk x = c.part("a new LOG");
        x.log(0, 2, 20, 20, 0);
        x.log(1, 2, 20, 20, 0);
        x.tone(0, 7, 3);
        x.flaw(0, 1, 0, 0, 3, 3);
        c.door(0, 10, 10, 0, "0");
        c.door(1, 10, 10, 0, "0");
        c.door(2, 10, 10, 0, "0");
        c.due("make(0, 0)", x.make(0, 0), 1);
        c.due("make(1, 1)", x.make(1, 1), 1);
        c.due("make(2, 0)", x.make(2, 0), 1);
        c.door(2, 10, 10, 0, "0");
        c.due("CUTS, one of them lost", x.leaf(0, 0, 3), 2);
        c.due("log that can't be", x.log(0, 2, 20, 20, 9), false);
        c.due("DOOR 0 stays made", x.of(0, 6), 0);
        c.due("CUTS stay", x.leaf(0, 0, 3), 2);
        c.due("log again", x.log(0, 2, 20, 20, 0), true);
        c.due("TONE", x.leaf(0, 1, 1), 0);
        c.due("FLAWS", x.leaf(0, 1, 2), 0);
        c.due("CUTS", x.leaf(0, 0, 3), 0);
        c.due("DOOR 0 is no more made", x.of(0, 6), -1);
        c.due("nor has a LEAF", x.of(0, 7), -1);
        c.due("nor a height", x.of(0, 8), -1);
        c.due("nor an x", x.of(0, 9), -1);
        c.due("free(0)", x.free(0), false);
        c.due("DOOR 1 stays made", x.of(1, 6), 1);
        c.due("LOG 1 keeps its CUT", x.leaf(1, 0, 3), 1);
        c.due("the whole LEAF is free", x.why(0, 0, 0, 0, 0), 0);
        c.due("the flaw is gone", x.why(0, 0, 1, 0, 0), 0);
        c.due("drift without FLAWS", x.drift(0, 1, 0, 0), false);
        c.due("the next FLAW is 0", x.flaw(0, 0, 0, 0, 1, 1), 0);
    }

    private static void tone(Checks c) {
        VeneerDesk x = c.part("tone");
        c.due("tone without LOG", x.tone(0, 0, 0), false);
        x.log(0, 12, 50, 30, 0);
        c.due("TONE at first", x.leaf(0, 11, 1), 0);
        c.due("tone(0, 100, 5)", x.tone(0, 100, 5), true);
        c.due("TONE of LEAF 0", x.leaf(0, 0, 1), 100);
        c.due("TONE of LEAF 11", x.leaf(0, 11, 1), 155);
        int[][] wrong = {
            {-1, 0, 0}, {1, 0, 0}, {3, 0, 0}, {LOW, 0, 0}, {HIGH, 0, 0},
            {0, -1, 0}, {0, 101, 0}, {0, LOW, 0}, {0, HIGH, 0},
            {0, 0, -6}, {0, 0, 6}, {0, 0, LOW}, {0, 0, HIGH},
        };
        for (int[] w : wrong) {
            String call = "tone(" + w[0] + ", " + w[1] + ", " + w[2] + ")";
            c.due(call, x.tone(w[0], w[1], w[2]), false);
            c.due(call + " did nothing", x.leaf(0, 1, 1), 105);
        }
        c.due("tone(0, 0, -5)", x.tone(0, 0, -5), true);
        c.due("TONE below 0", x.leaf(0, 11, 1), -55);
    }

    private static void flaw(Checks c) {
        VeneerDesk x = c.part("flaw");
        c.due("flaw without LOG", x.flaw(0, 0, 0, 0, 1, 1), -1);
        x.log(0, 3, 50, 30, 0);
        x.log(1, 3, 50, 30, 0);
        int[][] wrong = {
            {-1, 0, 0, 0, 1, 1}, {2, 0, 0, 0, 1, 1}, {3, 0, 0, 0, 1, 1},
            {0, -1, 0, 0, 1, 1}, {0, 3, 0, 0, 1, 1}, {0, LOW, 0, 0, 1, 1}, {0, HIGH, 0, 0, 1, 1},
            {0, 0, -1, 0, 1, 1}, {0, 0, 101, 0, 1, 1}, {0, 0, 0, -1, 1, 1}, {0, 0, 0, 101, 1, 1},
            {0, 0, 0, 0, 0, 1}, {0, 0, 0, 0, 101, 1}, {0, 0, 0, 0, 1, 0}, {0, 0, 0, 0, 1, 101},
            {0, 0, LOW, 0, 1, 1}, {0, 0, HIGH, 0, 1, 1}, {0, 0, 0, LOW, 1, 1}, {0, 0, 0, HIGH, 1, 1},
            {0, 0, 0, 0, LOW, 1}, {0, 0, 0, 0, HIGH, 1}, {0, 0, 0, 0, 1, LOW}, {0, 0, 0, 0, 1, HIGH},
        };
        for (int[] w : wrong) {
            String call = "flaw(" + w[0] + ", " + w[1] + ", " + w[2] + ", " + w[3] + ", " + w[4] + ", " + w[5] + ")";
            c.due(call, x.flaw(w[0], w[1], w[2], w[3], w[4], w[5]), -1);
        }
        c.due("flaw of LEAF 1 alone", x.flaw(0, 1, 2, 3, 4, 5), 0);
        c.due("LEAF 0", x.leaf(0, 0, 2), 0);
        c.due("LEAF 1", x.leaf(0, 1, 2), 1);
        c.due("LEAF 2", x.leaf(0, 2, 2), 0);
        c.due("its upper left", x.hit(0, 1, 2, 3, 1, 1), 0);
        c.due("its lower right", x.hit(0, 1, 5, 7, 1, 1), 0);
        c.due("left of it", x.hit(0, 1, 0, 0, 2, 50), -1);
        c.due("right of it", x.hit(0, 1, 6, 0, 24, 50), -1);
        c.due("above it", x.hit(0, 1, 0, 0, 30, 3), -1);
        c.due("below it", x.hit(0, 1, 0, 8, 30, 42), -1);
        c.due("the widest and highest", x.flaw(0, 2, 100, 100, 100, 100), 1);
        c.due("all beyond the LEAF", x.leaf(0, 2, 2), 0);
        for (int n = 2; n < 10; n++) {
            c.due("flaw " + n, x.flaw(0, 0, 29, 49, 100, 100), n);
        }
        c.due("an eleventh", x.flaw(0, 0, 0, 0, 1, 1), -1);
        c.due("of another LOG", x.flaw(1, 0, 0, 0, 1, 1), 0);
        c.due("FLAWS at the LEAF's corner", x.leaf(0, 0, 2), 8);
        c.due("the eleventh is not there", x.hit(0, 0, 0, 0, 1, 1), -1);
    }

    private static void drift(Checks c) {
        VeneerDesk x = c.part("drift");
        c.due("drift without LOG", x.drift(0, 0, 0, 0), false);
        x.log(0, 5, 50, 30, 0);
        c.due("drift without FLAW", x.drift(0, 1, 0, 0), false);
        x.flaw(0, 0, 0, 20, 3, 3);
        x.flaw(0, 1, 10, 20, 4, 6);
        int[][] wrong = {
            {-1, 3, 0, 0}, {1, 3, 0, 0}, {3, 3, 0, 0}, {0, 0, 0, 0}, {0, -1, 0, 0}, {0, 5, 0, 0},
            {0, LOW, 0, 0}, {0, HIGH, 0, 0}, {0, 3, -21, 0}, {0, 3, 21, 0}, {0, 3, 0, -21},
            {0, 3, 0, 21}, {0, 3, LOW, 0}, {0, 3, HIGH, 0}, {0, 3, 0, LOW}, {0, 3, 0, HIGH},
        };
        for (int[] w : wrong) {
            String call = "drift(" + w[0] + ", " + w[1] + ", " + w[2] + ", " + w[3] + ")";
            c.due(call, x.drift(w[0], w[1], w[2], w[3]), false);
            c.due(call + " did nothing", x.leaf(0, 2, 2), 0);
        }
        c.due("drift(0, 3, 5, -20)", x.drift(0, 3, 5, -20), true);
        c.due("LEAF 1 at its own place", x.hit(0, 1, 10, 20, 1, 1), 1);
        c.due("LEAF 2", x.hit(0, 2, 15, 0, 1, 1), 1);
        c.due("LEAF 2, its end", x.hit(0, 2, 18, 5, 1, 1), 1);
        c.due("LEAF 2, beside its end", x.hit(0, 2, 19, 5, 1, 1), -1);
        c.due("LEAF 2, below its end", x.hit(0, 2, 18, 6, 1, 1), -1);
        c.due("LEAF 3, above the LEAF", x.leaf(0, 3, 2), 0);
        c.due("LEAF 4, behind the last", x.leaf(0, 4, 2), 0);
        c.due("the FLAW before stays", x.leaf(0, 0, 2), 1);
        c.door(0, 30, 50, 0, "0");
        c.due("why in LEAF 2", x.why(0, 0, 2, 0, 0), 3);
        c.due("why in LEAF 3", x.why(0, 0, 3, 0, 0), 0);
        c.due("drift(0, 1, 20, 20)", x.drift(0, 1, 20, 20), true);
        c.due("it drifts no more to LEAF 2", x.leaf(0, 2, 2), 0);
        c.due("why in LEAF 2", x.why(0, 0, 2, 0, 0), 0);
        c.due("it is in its first LEAF", x.hit(0, 1, 10, 20, 4, 6), 1);
        c.due("drift(0, 4, -10, 0)", x.drift(0, 4, -10, 0), true);
        c.due("LEAF 2, at the left side", x.hit(0, 2, 0, 20, 1, 1), 1);
        c.due("LEAF 3, left of the LEAF", x.leaf(0, 3, 2), 0);
        c.due("why in LEAF 3", x.why(0, 0, 3, 0, 0), 0);
        c.due("drift(0, 4, -6, 0)", x.drift(0, 4, -6, 0), true);
        c.due("LEAF 3, in part left of the LEAF", x.hit(0, 3, 0, 20, 2, 1), 1);
        c.due("LEAF 3, 2 wide alone", x.hit(0, 3, 2, 20, 2, 1), -1);
        c.door(1, 1, 1, 0, "0");
        c.due("why at x 1", x.why(1, 0, 3, 20, 1), 3);
        c.due("why at x 2", x.why(1, 0, 3, 20, 2), 0);
        for (int n = 2; n < 10; n++) {
            x.flaw(0, 0, 10, 40, 1, 1);
        }
        c.due("the tenth drifts", x.drift(0, 4, 1, 1), true);
        c.due("into LEAF 4", x.hit(0, 4, 14, 44, 1, 1), 9);
        c.due("why in LEAF 4", x.why(1, 0, 4, 44, 14), 3);
        x.log(0, 5, 50, 30, 0);
        x.flaw(0, 1, 20, 30, 1, 1);
        c.due("the first of a new LOG drifts", x.drift(0, 2, 0, 0), true);
        c.due("the FLAWS before are gone", x.why(1, 0, 1, 20, 10), 0);
    }

    private static void leaf(Checks c) {
        VeneerDesk x = c.part("leaf");
        x.log(1, 3, 40, 20, -1);
        x.tone(1, 10, 2);
        x.flaw(1, 0, 19, 0, 1, 1);
        x.drift(1, 2, 0, 0);
        x.flaw(1, 1, 0, 39, 5, 5);
        x.flaw(1, 1, 0, 40, 5, 5);
        c.due("WIDTH of LEAF 2", x.leaf(1, 2, 0), 18);
        c.due("TONE of LEAF 2", x.leaf(1, 2, 1), 14);
        c.due("FLAWS of LEAF 0, at its right side", x.leaf(1, 0, 2), 1);
        c.due("FLAWS of LEAF 1, one at its end", x.leaf(1, 1, 2), 1);
        c.due("FLAWS of LEAF 2, beside it", x.leaf(1, 2, 2), 0);
        c.door(0, 2, 3, 200, "0/1/1");
        c.due("make(0, 1)", x.make(0, 1), 3);
        c.due("CUTS of LEAF 0", x.leaf(1, 0, 3), 1);
        c.due("CUTS of LEAF 1", x.leaf(1, 1, 3), 2);
        c.due("CUTS of LEAF 2", x.leaf(1, 2, 3), 0);
        c.due("LEAVES", x.leaf(1, 0, 4), 3);
        c.due("LENGTH", x.leaf(1, 0, 5), 40);
        for (int what : new int[] {4, 5}) {
            c.due("what " + what + " of LEAF 1", x.leaf(1, 1, what), -1000);
        }
        for (int what : new int[] {-1, 6, LOW, HIGH}) {
            c.due("what " + what, x.leaf(1, 0, what), -1000);
        }
        for (int i : new int[] {-1, 3, LOW, HIGH}) {
            c.due("LEAF " + i, x.leaf(1, i, 0), -1000);
        }
        for (int l : new int[] {-1, 0, 2, 3, LOW, HIGH}) {
            c.due("LOG " + l, x.leaf(l, 0, 0), -1000);
        }
    }

    private static void hit(Checks c) {
        VeneerDesk x = c.part("hit");
        c.due("hit without LOG", x.hit(0, 0, 0, 0, 1, 1), -2);
        x.log(0, 2, 50, 30, 2);
        x.flaw(0, 0, 4, 4, 4, 4);
        x.flaw(0, 0, 0, 0, 6, 6);
        x.flaw(0, 0, 20, 20, 10, 10);
        c.due("the least of two", x.hit(0, 0, 5, 5, 1, 1), 0);
        c.due("the second alone", x.hit(0, 0, 3, 3, 1, 1), 1);
        c.due("all three", x.hit(0, 0, 0, 0, 30, 50), 0);
        c.due("none", x.hit(0, 0, 10, 0, 20, 20), -1);
        c.due("a box that shares a line", x.hit(0, 0, 10, 20, 10, 10), -1);
        c.due("the whole of LEAF 1", x.hit(0, 1, 0, 0, 32, 50), -1);
        int[][] noBox = {
            {-1, 0, 0, 0, 1, 1}, {1, 0, 0, 0, 1, 1}, {3, 0, 0, 0, 1, 1}, {0, -1, 0, 0, 1, 1},
            {0, 2, 0, 0, 1, 1}, {0, LOW, 0, 0, 1, 1}, {0, HIGH, 0, 0, 1, 1}, {0, 0, 0, 0, 0, 1},
            {0, 0, 0, 0, 101, 1}, {0, 0, 0, 0, 1, 0}, {0, 0, 0, 0, 1, 101}, {0, 0, -1, 0, 0, 1},
            {0, 0, 0, 0, LOW, 1}, {0, 0, 0, 0, HIGH, 1}, {0, 0, 0, 0, 1, LOW}, {0, 0, 0, 0, 1, HIGH},
        };
        for (int[] w : noBox) {
            dueHit(c, w, -2);
        }
        int[][] beyond = {
            {0, 0, -1, 0, 1, 1}, {0, 0, 30, 0, 1, 1}, {0, 0, 0, -1, 1, 1}, {0, 0, 0, 50, 1, 1},
            {0, 0, 0, 0, 31, 1}, {0, 0, 0, 0, 1, 51}, {0, 0, 0, 0, 100, 100}, {0, 1, 0, 0, 33, 1},
            {0, 0, LOW, 0, 1, 1}, {0, 0, HIGH, 0, 1, 1}, {0, 0, 0, LOW, 1, 1}, {0, 0, 0, HIGH, 1, 1},
            {0, 0, HIGH, HIGH, 100, 100}, {0, 0, LOW, LOW, 100, 100},
        };
        for (int[] w : beyond) {
            dueHit(c, w, -3);
        }
    }

    private static void dueHit(Checks c, int[] w, int want) {
        String call = "hit(" + w[0] + ", " + w[1] + ", " + w[2] + ", " + w[3] + ", " + w[4] + ", " + w[5] + ")";
        c.due(call, c.desk.hit(w[0], w[1], w[2], w[3], w[4], w[5]), want);
    }
}
