/** The edges of boxes (terms I and III): LEAVES, FLAWS that drift, CUTS, what FITS, and PLACES. */
public final class BoxEdgeTest {
    private static final int LOW = Integer.MIN_VALUE;
    private static final int HIGH = Integer.MAX_VALUE;

    private final Checks c = new Checks();

    public static void main(String[] args) {
        BoxEdgeTest t = new BoxEdgeTest();
        t.widths();
        t.narrowestLeaf();
        t.widestLeaf();
        t.tones();
        t.firstAndLastLeaf();
        t.flawsFarAway();
        t.flawsThatCoverAll();
        t.driftUpToALeaf();
        t.driftBeyondTheLeft();
        t.driftBeyondTheRight();
        t.driftBeyondAbove();
        t.driftBeyondBelow();
        t.aboveIsNotTheLeafBefore();
        t.flawsAtAllDistances();
        t.cutsAtAllDistances();
        t.corners();
        t.leavesThere();
        t.cutsWithin();
        t.stackWithin();
        t.farNumbers();
        t.tonesApart();
        t.leafOfNoPiece();
        t.onlyItsOwnLeavesAreAsWide();
        t.lastPlace();
        t.fullLeaf();
        t.c.finish();
    }

    private void dueWhy(String name, int d, int f, int y, int x, int want) {
        c.due(name + ": why(" + d + ", 0, " + f + ", " + y + ", " + x + ")", c.desk.why(d, 0, f, y, x), want);
    }

    /** "WIDTH of LEAF i: wide and i times grows (..), but 1 at least." */
    private void widths() {
        VeneerDesk x = c.part("WIDTH");
        for (int wide : new int[] {10, 11, 40}) {
            for (int grows = -2; grows <= 2; grows++) {
                x.log(0, 12, 10, wide, grows);
                for (int i = 0; i < 12; i++) {
                    int want = wide + i * grows < 1 ? 1 : wide + i * grows;
                    c.due(wide + " and " + i + " times " + grows, x.leaf(0, i, 0), want);
                }
            }
        }
    }

    /** A LEAF 1 wide, where wide and i times grows would be 0 or less. */
    private void narrowestLeaf() {
        VeneerDesk x = c.part("the narrowest LEAF");
        x.log(0, 12, 10, 10, -2);
        c.door(0, 1, 10, 0, "0");
        c.door(1, 2, 10, 0, "0");
        for (int i = 4; i < 12; i++) {
            int wide = i == 4 ? 2 : 1;
            c.due("a box 1 wide in LEAF " + i, x.hit(0, i, 0, 0, 1, 10), -1);
            c.due("a box 1 wide at x 1 in LEAF " + i, x.hit(0, i, 1, 0, 1, 10), wide == 2 ? -1 : -3);
            c.due("a box 2 wide in LEAF " + i, x.hit(0, i, 0, 0, 2, 10), wide == 2 ? -1 : -3);
            dueWhy("1 wide", 0, i, 0, 0, 0);
            dueWhy("1 wide at x 1", 0, i, 0, 1, wide == 2 ? 0 : 2);
            dueWhy("2 wide", 1, i, 0, 0, wide == 2 ? 0 : 2);
        }
        c.due("a FLAW in the last LEAF", x.flaw(0, 11, 0, 0, 1, 1), 0);
        c.due("one beside it", x.flaw(0, 11, 1, 0, 100, 100), 1);
        c.due("FLAWS that touch it", x.leaf(0, 11, 2), 1);
        c.door(2, 1, 9, 0, "9|8|0");
        c.duePlace("LEAVES 0, 8 and 9", 2, 0, 0, 0, 0);
        c.due("make", x.make(2, 0), 3);
        c.duePlace("LEAVES 2, 10 and 11, below the FLAW", 2, 0, 2, 1, 0);
        c.due("make of the 1 wide", x.make(0, 0), 1);
        c.due("at x 1 of LEAF 0", x.of(0, 9), 1);
    }

    private void widestLeaf() {
        VeneerDesk x = c.part("the widest LEAF");
        x.log(0, 12, 60, 40, 2);
        c.due("WIDTH", x.leaf(0, 11, 0), 62);
        c.due("the whole of it", x.hit(0, 11, 0, 0, 62, 60), -1);
        c.due("1 wider", x.hit(0, 11, 0, 0, 63, 60), -3);
        c.due("1 higher", x.hit(0, 11, 0, 0, 62, 61), -3);
        c.due("its last corner", x.hit(0, 11, 61, 59, 1, 1), -1);
        c.due("right of it", x.hit(0, 11, 62, 59, 1, 1), -3);
        c.due("below it", x.hit(0, 11, 61, 60, 1, 1), -3);
        c.door(0, 60, 60, 0, "0");
        dueWhy("at the left", 0, 11, 0, 0, 0);
        dueWhy("at the right", 0, 11, 0, 2, 0);
        dueWhy("beyond the right", 0, 11, 0, 3, 2);
        dueWhy("beyond below", 0, 11, 1, 2, 2);
        x.flaw(0, 11, 61, 59, 1, 1);
        dueWhy("on the FLAW in its last corner", 0, 11, 0, 2, 3);
        dueWhy("beside that FLAW", 0, 11, 0, 1, 0);
        c.due("the FLAW in its last corner", x.hit(0, 11, 61, 59, 1, 1), 0);
        x.flaw(0, 10, 0, 0, 1, 1);
        c.duePlace("in LEAF 10 there is no place", 0, 0, 11, 0, 0);
        c.due("make", x.make(0, 0), 1);
        c.door(1, 1, 60, 0, "0");
        dueWhy("on the CUT's last column", 1, 11, 0, 59, 4);
        dueWhy("beside the CUT", 1, 11, 0, 60, 0);
        dueWhy("the last column", 1, 11, 0, 61, 3);
        dueWhy("the last column above the FLAW", 1, 11, -1, 61, 2);
    }

    /** "TONE of LEAF i: tone and i times darkens": below 0 and above 100 it goes on. */
    private void tones() {
        VeneerDesk x = c.part("TONE");
        x.log(0, 12, 10, 10, 0);
        for (int tone : new int[] {0, 100}) {
            for (int darkens = -5; darkens <= 5; darkens++) {
                c.due("tone", x.tone(0, tone, darkens), true);
                for (int i = 0; i < 12; i += 11) {
                    c.due(tone + " and " + i + " times " + darkens, x.leaf(0, i, 1), tone + i * darkens);
                }
            }
        }
    }

    /** "LEAVES 0 .. n - 1 (n 1 .. 12)" */
    private void firstAndLastLeaf() {
        for (int n = 1; n <= 12; n++) {
            VeneerDesk x = c.part(n + " LEAVES");
            x.log(0, n, 10, 10, 0);
            c.door(0, 1, 1, 0, "0");
            c.due("LEAVES", x.leaf(0, 0, 4), n);
            for (int i = -1; i <= 12; i++) {
                boolean there = i >= 0 && i < n;
                c.due("leaf " + i, x.leaf(0, i, 0), there ? 10 : -1000);
                c.due("hit " + i, x.hit(0, i, 0, 0, 1, 1), there ? -1 : -2);
                dueWhy("LEAF " + i, 0, i, 0, 0, there ? 0 : 1);
                c.due("what 4 of LEAF " + i, x.leaf(0, i, 4), i == 0 ? n : -1000);
                c.due("what 5 of LEAF " + i, x.leaf(0, i, 5), i == 0 ? 10 : -1000);
            }
            c.due("a FLAW in the last LEAF", x.flaw(0, n - 1, 0, 0, 1, 1), 0);
            c.due("a FLAW behind the last LEAF", x.flaw(0, n, 0, 0, 1, 1), -1);
            c.due("drift up to the last LEAF", x.drift(0, n - 1, 0, 0), true);
            c.due("drift behind the last LEAF", x.drift(0, n, 0, 0), false);
        }
    }

    /** "x, y 0 .. 100": beyond every LEAF, but a drift brings them in. */
    private void flawsFarAway() {
        VeneerDesk x = c.part("FLAWS far away");
        x.log(0, 12, 60, 40, 2);
        x.flaw(0, 9, 100, 0, 1, 1);
        c.due("drift by -20", x.drift(0, 11, -20, 0), true);
        c.due("LEAF 9, x 100", x.leaf(0, 9, 2), 0);
        c.due("LEAF 10, x 80", x.leaf(0, 10, 2), 0);
        c.due("LEAF 11, x 60 of 62", x.leaf(0, 11, 2), 1);
        c.due("just there", x.hit(0, 11, 60, 0, 1, 1), 0);
        c.due("left of it", x.hit(0, 11, 0, 0, 60, 60), -1);
        c.due("right of it", x.hit(0, 11, 61, 0, 1, 60), -1);
        x.flaw(0, 0, 0, 99, 1, 1);
        c.due("drift by -20", x.drift(0, 11, 0, -20), true);
        c.due("LEAF 1, y 79", x.leaf(0, 1, 2), 0);
        c.due("LEAF 2, y 59 of 60", x.hit(0, 2, 0, 59, 1, 1), 1);
        c.due("LEAF 4, y 19", x.hit(0, 4, 0, 19, 1, 1), 1);
        c.due("LEAF 5, y -1", x.leaf(0, 5, 2), 0);
        c.due("LEAF 11, y -121", x.leaf(0, 11, 2), 1);
        x.flaw(0, 0, 0, 100, 1, 1);
        c.due("drift by -20", x.drift(0, 2, 0, -20), true);
        c.due("LEAF 2, y 60: below it", x.hit(0, 2, 0, 0, 44, 60), 1);
        c.due("LEAF 2, one FLAW alone", x.leaf(0, 2, 2), 1);
    }

    /** "1 .. 100 wide and high": as big as can be, and where it ends. */
    private void flawsThatCoverAll() {
        VeneerDesk x = c.part("FLAWS that cover all");
        x.log(0, 12, 60, 40, 2);
        x.flaw(0, 0, 0, 0, 100, 100);
        c.due("drift", x.drift(0, 11, -20, -20), true);
        c.door(0, 1, 1, 0, "0");
        dueWhy("LEAF 0, its first corner", 0, 0, 0, 0, 3);
        dueWhy("LEAF 0, its last corner", 0, 0, 59, 39, 3);
        dueWhy("LEAF 4, up to 20", 0, 4, 19, 19, 3);
        dueWhy("LEAF 4, behind 20", 0, 4, 19, 20, 0);
        dueWhy("LEAF 4, below 20", 0, 4, 20, 19, 0);
        dueWhy("LEAF 5, up to 0", 0, 5, 0, 0, 0);
        c.due("LEAF 4", x.leaf(0, 4, 2), 1);
        c.due("LEAF 5, a line at most", x.leaf(0, 5, 2), 0);
        c.due("LEAF 11", x.leaf(0, 11, 2), 0);
        c.duePlace("LEAF 3 is the first that is wider than what is left of it", 0, 0, 3, 0, 40);
    }

    /** "from a LEAF on, up to another one (with it)" */
    private void driftUpToALeaf() {
        for (int first = 0; first < 12; first++) {
            for (int last = first; last < 12; last++) {
                VeneerDesk x = c.part("from LEAF " + first + " up to " + last);
                x.log(0, 12, 60, 40, 0);
                c.door(0, 40, 60, 0, "0");
                x.flaw(0, first, 5, 5, 1, 1);
                c.due("drift", x.drift(0, last, 1, 2), true);
                for (int i = 0; i < 12; i++) {
                    boolean there = i >= first && i <= last;
                    int steps = i - first;
                    c.due("FLAWS of LEAF " + i, x.leaf(0, i, 2), there ? 1 : 0);
                    dueWhy("LEAF " + i, 0, i, 0, 0, there ? 3 : 0);
                    if (there) {
                        c.due("hit in LEAF " + i, x.hit(0, i, 5 + steps, 5 + 2 * steps, 1, 1), 0);
                    }
                }
            }
        }
    }

    /** A FLAW 3 wide and high in LEAF 0 that drifts to LEAF 1 alone, which is 20 wide and 30 long. */
    private VeneerDesk drifting(String name, int x, int y, int dx, int dy) {
        VeneerDesk desk = c.part(name + " by " + dx + " and " + dy);
        desk.log(0, 3, 30, 20, 0);
        desk.flaw(0, 0, x, y, 3, 3);
        desk.drift(0, 1, dx, dy);
        c.door(0, 20, 30, 0, "0");
        c.door(1, 1, 1, 0, "0");
        return desk;
    }

    private void dueInLeafOne(VeneerDesk desk, boolean there) {
        c.due("FLAWS of LEAF 1", desk.leaf(0, 1, 2), there ? 1 : 0);
        c.due("hit of the whole LEAF", desk.hit(0, 1, 0, 0, 20, 30), there ? 0 : -1);
        dueWhy("the whole LEAF", 0, 1, 0, 0, there ? 3 : 0);
        c.due("PLACE of the whole LEAF", desk.place(0, 0, 0), there ? 2 : 1);
        c.due("FLAWS of LEAF 2", desk.leaf(0, 2, 2), 0);
    }

    private void driftBeyondTheLeft() {
        VeneerDesk desk = drifting("left", 10, 10, -12, 0);
        dueInLeafOne(desk, true);
        dueWhy("its last column", 1, 1, 10, 0, 3);
        dueWhy("right of it", 1, 1, 10, 1, 0);
        dueInLeafOne(drifting("left", 10, 10, -13, 0), false);
        dueInLeafOne(drifting("left", 10, 10, -20, 0), false);
    }

    private void driftBeyondTheRight() {
        VeneerDesk desk = drifting("right", 10, 10, 9, 0);
        dueInLeafOne(desk, true);
        dueWhy("its first column", 1, 1, 10, 19, 3);
        dueWhy("left of it", 1, 1, 10, 18, 0);
        dueInLeafOne(drifting("right", 10, 10, 10, 0), false);
        dueInLeafOne(drifting("right", 10, 10, 20, 0), false);
    }

    private void driftBeyondAbove() {
        VeneerDesk desk = drifting("above", 10, 10, 0, -12);
        dueInLeafOne(desk, true);
        dueWhy("its last row", 1, 1, 0, 10, 3);
        dueWhy("below it", 1, 1, 1, 10, 0);
        dueInLeafOne(drifting("above", 10, 10, 0, -13), false);
        dueInLeafOne(drifting("above", 10, 10, 0, -20), false);
    }

    private void driftBeyondBelow() {
        VeneerDesk desk = drifting("below", 10, 15, 0, 14);
        dueInLeafOne(desk, true);
        dueWhy("its first row", 1, 1, 29, 10, 3);
        dueWhy("above it", 1, 1, 28, 10, 0);
        dueInLeafOne(drifting("below", 10, 15, 0, 15), false);
        dueInLeafOne(drifting("below", 10, 15, 0, 20), false);
    }

    /** "what is beyond the LEAF is nothing": nothing in another LEAF either. */
    private void aboveIsNotTheLeafBefore() {
        VeneerDesk x = c.part("beyond a LEAF as long as can be");
        x.log(0, 3, 60, 40, 0);
        x.flaw(0, 0, 0, 10, 40, 15);
        x.drift(0, 1, 0, -20);
        x.flaw(0, 1, 0, 50, 40, 100);
        c.door(0, 1, 1, 0, "0");
        for (int k = 0; k < 40; k += 13) {
            dueWhy("LEAF 0, its last row", 0, 0, 59, k, 0);
            dueWhy("LEAF 0, below its FLAW", 0, 0, 25, k, 0);
            dueWhy("LEAF 1, its first row", 0, 1, 0, k, 3);
            dueWhy("LEAF 1, below its first FLAW", 0, 1, 5, k, 0);
            dueWhy("LEAF 1, its last row", 0, 1, 59, k, 3);
            dueWhy("LEAF 2, its first row", 0, 2, 0, k, 0);
        }
        x.log(0, 2, 60, 40, 0);
        x.flaw(0, 0, 39, 0, 100, 1);
        dueWhy("LEAF 0, its last column", 0, 0, 0, 39, 3);
        dueWhy("LEAF 0, the next row", 0, 0, 1, 0, 0);
    }

    /** "Two boxes overlap, if they share more than a line": every place of a box round a FLAW. */
    private void flawsAtAllDistances() {
        VeneerDesk x = c.part("hit round a FLAW");
        x.log(0, 1, 15, 20, 0);
        x.flaw(0, 0, 6, 5, 4, 3);
        for (int top = 0; top <= 13; top++) {
            for (int left = 0; left <= 17; left++) {
                int want = shared(left, 3, 6, 4) * shared(top, 2, 5, 3) > 0 ? 0 : -1;
                c.due("hit at " + left + ", " + top, x.hit(0, 0, left, top, 3, 2), want);
            }
        }
        x = c.part("why round a FLAW");
        x.log(0, 1, 15, 20, 0);
        x.flaw(0, 0, 6, 5, 4, 3);
        dueWhyRound(3);
    }

    /** The same round a CUT. */
    private void cutsAtAllDistances() {
        VeneerDesk x = c.part("why round a CUT");
        x.log(0, 1, 15, 20, 0);
        c.door(1, 6, 15, 0, "0");
        c.door(2, 14, 5, 0, "0");
        c.door(3, 4, 3, 0, "0");
        for (int d = 1; d <= 3; d++) {
            c.due("make " + d, x.make(d, 0), 1);
        }
        c.due("height of the last", x.of(3, 8), 5);
        c.due("x of the last", x.of(3, 9), 6);
        c.due("free(1)", x.free(1), true);
        c.due("free(2)", x.free(2), true);
        dueWhyRound(4);
    }

    private void dueWhyRound(int reason) {
        c.door(0, 3, 2, 0, "0");
        for (int top = -1; top <= 14; top++) {
            for (int left = -1; left <= 18; left++) {
                boolean within = top >= 0 && top <= 13 && left >= 0 && left <= 17;
                boolean shares = shared(left, 3, 6, 4) * shared(top, 2, 5, 3) > 0;
                dueWhy("round", 0, 0, top, left, !within ? 2 : shares ? reason : 0);
            }
        }
    }

    /** How much two stretches share, counted one by one. */
    private static int shared(int start, int length, int other, int otherLength) {
        int count = 0;
        for (int k = start; k < start + length; k++) {
            count += k >= other && k < other + otherLength ? 1 : 0;
        }
        return count;
    }

    /** A corner that is shared is less than a line. */
    private void corners() {
        VeneerDesk x = c.part("corners");
        x.log(0, 1, 20, 20, 0);
        x.flaw(0, 0, 8, 8, 4, 4);
        int[][] touching = {{4, 4}, {12, 4}, {4, 12}, {12, 12}};
        int[][] sharing = {{5, 5}, {11, 5}, {5, 11}, {11, 11}};
        for (int k = 0; k < 4; k++) {
            c.due("corner " + k, x.hit(0, 0, touching[k][0], touching[k][1], 4, 4), -1);
            c.due("1 in corner " + k, x.hit(0, 0, sharing[k][0], sharing[k][1], 4, 4), 0);
        }
        c.due("just as big as the FLAW", x.hit(0, 0, 8, 8, 4, 4), 0);
        c.due("within the FLAW", x.hit(0, 0, 9, 9, 1, 1), 0);
        c.due("round the FLAW", x.hit(0, 0, 0, 0, 20, 20), 0);
    }

    /** FITS: "if all LEAVES are there"; why: "1 there is no such LEAF". */
    private void leavesThere() {
        VeneerDesk x = c.part("all LEAVES are there");
        x.log(0, 12, 10, 10, 0);
        for (int offset = 0; offset <= 9; offset++) {
            c.door(0, 1, 1, 0, "0|" + offset);
            dueWhy("the last f", 0, 11 - offset, 0, 0, 0);
            dueWhy("one more", 0, 12 - offset, 0, 0, 1);
            dueWhy("one below 0", 0, -1, 0, 0, 1);
            c.due("place", x.place(0, 0, 0), 0);
        }
        for (int n = 1; n <= 10; n++) {
            x.log(0, n, 10, 10, 0);
            c.due(n + " LEAVES for an offset 9", x.place(0, 0, 0), n == 10 ? 0 : -1);
            c.due(n + " LEAVES, make", x.make(0, 0), n == 10 ? 2 : -1);
        }
    }

    /** FITS: "all CUTS lie within them"; why: "2 its CUT is not within it". */
    private void cutsWithin() {
        for (int[] size : new int[][] {{1, 1}, {10, 12}, {9, 11}, {5, 12}, {10, 1}}) {
            c.part("CUTS " + size[0] + " wide and " + size[1] + " high");
            c.desk.log(0, 1, 12, 10, 0);
            c.door(0, size[0], size[1], 0, "0");
            int lastX = 10 - size[0];
            int lastY = 12 - size[1];
            dueWhy("first corner", 0, 0, 0, 0, 0);
            dueWhy("last corner", 0, 0, lastY, lastX, 0);
            dueWhy("right of it", 0, 0, lastY, lastX + 1, 2);
            dueWhy("below it", 0, 0, lastY + 1, lastX, 2);
            dueWhy("left", 0, 0, 0, -1, 2);
            dueWhy("above", 0, 0, -1, 0, 2);
        }
        VeneerDesk x = c.part("CUTS that are too big");
        x.log(0, 1, 12, 10, 0);
        c.door(0, 11, 12, 0, "0");
        c.door(1, 10, 13, 0, "0");
        for (int d = 0; d < 2; d++) {
            dueWhy("too big", d, 0, 0, 0, 2);
            c.due("place", x.place(d, 0, 0), -1);
            c.due("make", x.make(d, 0), -1);
        }
    }

    /** "the first from y on, the next from there on (each as high as told)" */
    private void stackWithin() {
        for (int count = 1; count <= 8; count++) {
            for (int high = 1; high <= 8; high++) {
                VeneerDesk x = c.part(count + " CUTS " + high + " high");
                x.log(0, 2, 30, 10, 0);
                c.door(0, 2, high, 0, "1" + "/1".repeat(count - 1));
                boolean fits = count * high <= 30;
                int lastY = 30 - count * high;
                dueWhy("at 0", 0, 0, 0, 0, fits ? 0 : 2);
                dueWhy("as low as can be", 0, 0, Math.max(0, lastY), 0, fits ? 0 : 2);
                dueWhy("one lower", 0, 0, Math.max(0, lastY + 1), 0, 2);
                c.due("make", x.make(0, 0), fits ? count : -1);
                c.due("CUTS of LEAF 1", x.leaf(0, 1, 3), fits ? count : 0);
                c.due("CUTS of LEAF 0", x.leaf(0, 0, 3), 0);
                c.door(1, 1, 1, 0, "0");
                dueWhy("the last row of them", 1, 1, Math.min(29, count * high - 1), 1, fits ? 4 : 0);
                dueWhy("below them", 1, 1, count * high, 1, count * high < 30 ? 0 : 2);
                dueWhy("beside them", 1, 1, 0, 2, 0);
            }
        }
    }

    /** Numbers so far that f and d, y and high, or x and wide would wrap around. */
    private void farNumbers() {
        VeneerDesk x = c.part("far numbers");
        x.log(0, 12, 60, 40, 0);
        c.door(0, 60, 60, 0, "9/9/9");
        c.door(1, 40, 20, 200, "0/0/0");
        for (int k = 0; k <= 12; k++) {
            dueWhy("f", 0, HIGH - k, 0, 0, 1);
            dueWhy("f", 0, LOW + k, 0, 0, 1);
            dueWhy("f", 1, HIGH - k, 0, 0, 1);
            dueWhy("f", 1, LOW + k, 0, 0, 1);
        }
        for (int k = 0; k <= 60; k += 20) {
            dueWhy("y", 1, 0, HIGH - k, 0, 2);
            dueWhy("y", 1, 0, LOW + k, 0, 2);
            dueWhy("x", 1, 0, 0, HIGH - k, 2);
            dueWhy("x", 1, 0, 0, LOW + k, 2);
            c.due("hit, x", x.hit(0, 0, HIGH - k, 0, k + 1, 1), -3);
            c.due("hit, y", x.hit(0, 0, 0, HIGH - k, 1, k + 1), -3);
            c.due("hit, x below 0", x.hit(0, 0, LOW + k, 0, k + 1, 1), -3);
            c.due("hit, y below 0", x.hit(0, 0, 0, LOW + k, 1, k + 1), -3);
        }
        for (int k = 60; k <= 70; k++) {
            dueWhy("an x that a shift would bring back", 1, 0, 0, k, 2);
            dueWhy("a y of the next LEAF", 1, 0, k, 0, 2);
        }
        dueWhy("and what FITS", 1, 0, 0, 0, 0);
    }

    /** FITS: "no two TONES of its LEAVES are farther apart than told"; "(0 .. 200)". */
    private void tonesApart() {
        for (int darkens = -5; darkens <= 5; darkens++) {
            VeneerDesk x = c.part("darkens " + darkens);
            x.log(0, 12, 10, 10, 0);
            x.tone(0, 50, darkens);
            for (int offset = 0; offset <= 9; offset++) {
                int apart = Math.abs(offset * darkens);
                c.door(0, 1, 1, apart, "0|" + offset + "|0");
                dueWhy("as far as told, " + apart, 0, 2, 0, 0, 0);
                c.due("place", x.place(0, 0, 0), 0);
                if (apart > 0) {
                    c.door(0, 1, 1, apart - 1, "0|" + offset + "|0");
                    dueWhy("1 farther, " + apart, 0, 2, 0, 0, 5);
                    c.due("place", x.place(0, 0, 0), -1);
                    c.due("make", x.make(0, 0), -1);
                }
            }
            c.door(1, 1, 1, 200, "0|9");
            dueWhy("200 apart", 1, 0, 0, 0, 0);
        }
    }

    /** TONES, WIDTHS, FLAWS and CUTS of a LEAF between, of which no PIECE is cut, do not matter. */
    private void leafOfNoPiece() {
        VeneerDesk x = c.part("a LEAF of no PIECE");
        x.log(0, 4, 10, 10, -2);
        x.flaw(0, 0, 0, 0, 100, 100);
        x.flaw(0, 2, 0, 0, 100, 100);
        c.door(0, 4, 10, 0, "1|3");
        dueWhy("LEAVES 1 and 3", 0, 0, 0, 0, 0);
        dueWhy("as wide as LEAF 3", 0, 0, 0, 1, 2);
        c.duePlace("LEAVES 1 and 3", 0, 0, 0, 0, 0);
        c.due("make", x.make(0, 0), 2);
        for (int i = 0; i < 4; i++) {
            c.due("CUTS of LEAF " + i, x.leaf(0, i, 3), i % 2);
        }
        c.due("of, LEAF", x.of(0, 7), 0);
        c.door(1, 1, 1, 0, "0");
        dueWhy("LEAF 3, where it is cut", 1, 3, 0, 3, 4);
        c.duePlace("beside the CUT of LEAF 1", 1, 0, 1, 0, 4);
    }

    /** A DOOR whose least offset is not 0 is as wide as its own LEAVES let it be, not LEAF f. */
    private void onlyItsOwnLeavesAreAsWide() {
        for (int grows = -2; grows <= 2; grows++) {
            for (int offset = 0; offset <= 9; offset++) {
                VeneerDesk x = c.part("offset " + offset + ", grows " + grows);
                x.log(0, 10, 10, 30, grows);
                int wide = 30 + offset * grows;
                c.door(0, wide, 10, 0, String.valueOf(offset));
                c.duePlace("just as wide", 0, 0, 0, 0, 0);
                c.due("make", x.make(0, 0), 1);
                c.due("CUTS of that LEAF", x.leaf(0, offset, 3), 1);
                c.door(1, wide + 1, 10, 0, String.valueOf(offset));
                boolean later = grows > 0 && offset < 9;
                c.due("1 wider", x.place(1, 0, 0), later ? 1 : -1);
            }
        }
    }

    /** PLACE: "the first (f, then y, then x) of all": also when it is the last that can be. */
    private void lastPlace() {
        VeneerDesk x = c.part("the last PLACE");
        x.log(0, 2, 20, 10, 2);
        x.flaw(0, 0, 0, 0, 100, 100);
        x.flaw(0, 1, 0, 0, 12, 17);
        x.flaw(0, 1, 0, 17, 8, 3);
        c.door(0, 4, 3, 0, "0");
        c.duePlace("the last corner", 0, 0, 1, 17, 8);
        c.door(1, 5, 3, 0, "0");
        c.due("1 wider", x.place(1, 0, 0), -1);
        c.door(1, 4, 4, 0, "0");
        c.due("1 higher", x.place(1, 0, 0), -1);
        c.due("make", x.make(0, 0), 1);
        c.due("LEAF", x.of(0, 7), 1);
        c.due("height", x.of(0, 8), 17);
        c.due("x", x.of(0, 9), 8);
        c.door(2, 1, 1, 0, "0");
        c.due("none for another", x.place(2, 0, 0), -1);
        c.due("free", x.free(0), true);
        x.flaw(0, 1, 11, 19, 1, 1);
        for (int what = 0; what < 3; what++) {
            c.due("a FLAW in the last corner, what " + what, x.place(0, 0, what), -1);
        }
        c.due("make", x.make(0, 0), -1);
    }

    /** CUTS that share lines alone fill a LEAF wholly. */
    private void fullLeaf() {
        VeneerDesk x = c.part("a full LEAF");
        x.log(0, 1, 60, 40, 0);
        for (int d = 0; d < 8; d++) {
            c.door(d, 5, 60, 0, "0");
            c.due("make " + d, x.make(d, 0), 1);
            c.due("x", x.of(d, 9), 5 * d);
        }
        c.door(0, 1, 1, 0, "0");
        c.due("none is left", x.place(0, 0, 0), -1);
        c.due("free(7)", x.free(7), true);
        c.duePlace("the last columns are left", 0, 0, 0, 0, 35);
        dueWhy("the last one", 0, 0, 59, 39, 0);
        dueWhy("the one before them", 0, 0, 59, 34, 4);
    }
}
