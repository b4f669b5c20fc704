/** Promises 16 to 18 and 21: why, place, make, free. */
public final class PlaceTest {
    private static final int LOW = Integer.MIN_VALUE;
    private static final int HIGH = Integer.MAX_VALUE;

    public static void main(String[] args) {
        Checks c = new Checks();
        whyOfOnePiece(c);
        whyOfTheFirstPiece(c);
        whyFarNumbers(c);
        whyTones(c);
        stacks(c);
        placeOrder(c);
        placeOfSeveralLeaves(c);
        placeNone(c);
        make(c);
        makeNone(c);
        free(c);
        lostCuts(c);
        c.finish();
    }

    private static void dueWhy(Checks c, int d, int l, int f, int y, int x, int want) {
        String call = "why(" + d + ", " + l + ", " + f + ", " + y + ", " + x + ")";
        c.due(call, c.desk.why(d, l, f, y, x), want);
    }

    private static void whyOfOnePiece(Checks c) {
        VeneerDesk x = c.part("why, one PIECE");
        x.log(0, 3, 30, 20, 1);
        x.flaw(0, 1, 10, 10, 2, 2);
        c.door(0, 5, 6, 0, "0");
        c.door(1, 5, 6, 0, "0");
        dueWhy(c, 0, 0, 0, 0, 0, 0);
        dueWhy(c, 0, 0, 0, 24, 15, 0);
        dueWhy(c, 0, 0, 0, 25, 15, 2);
        dueWhy(c, 0, 0, 0, 24, 16, 2);
        dueWhy(c, 0, 0, 1, 24, 16, 0);
        dueWhy(c, 0, 0, 1, 24, 17, 2);
        dueWhy(c, 0, 0, 2, 24, 17, 0);
        dueWhy(c, 0, 0, 0, -1, 0, 2);
        dueWhy(c, 0, 0, 0, 0, -1, 2);
        dueWhy(c, 0, 0, 3, 0, 0, 1);
        dueWhy(c, 0, 0, 3, -1, -1, 1);
        dueWhy(c, 0, 0, -1, 0, 0, 1);
        dueWhy(c, 0, 0, 1, 5, 6, 3);
        dueWhy(c, 0, 0, 1, 4, 6, 0);
        dueWhy(c, 0, 0, 1, 5, 5, 0);
        dueWhy(c, 0, 0, 1, 11, 11, 3);
        dueWhy(c, 0, 0, 1, 12, 11, 0);
        dueWhy(c, 0, 0, 1, 11, 12, 0);
        c.due("make(1, 0)", x.make(1, 0), 1);
        dueWhy(c, 0, 0, 0, 0, 0, 4);
        dueWhy(c, 0, 0, 0, 5, 4, 4);
        dueWhy(c, 0, 0, 0, 6, 4, 0);
        dueWhy(c, 0, 0, 0, 5, 5, 0);
        dueWhy(c, 1, 0, 0, 0, 0, 4);
        x.flaw(0, 0, 0, 0, 1, 1);
        dueWhy(c, 0, 0, 0, 0, 0, 3);
        dueWhy(c, 0, 0, 0, 0, 1, 4);
        dueWhy(c, 2, 0, 0, 0, 0, -1);
        dueWhy(c, -1, 0, 0, 0, 0, -1);
        dueWhy(c, 8, 0, 0, 0, 0, -1);
        dueWhy(c, 0, 1, 0, 0, 0, -1);
        dueWhy(c, 0, -1, 0, 0, 0, -1);
        dueWhy(c, 0, 3, 0, 0, 0, -1);
    }

    private static void whyOfTheFirstPiece(Checks c) {
        VeneerDesk x = c.part("why, the first PIECE");
        x.log(0, 3, 30, 20, -2);
        x.flaw(0, 1, 0, 0, 1, 1);
        c.door(7, 1, 1, 0, "0");
        c.due("make(7, 0)", x.make(7, 0), 1);
        // LEAF 0 has a CUT, LEAF 1 a FLAW, LEAF 2 is 16 wide, LEAF 3 is missing.
        c.door(0, 1, 1, 0, "0|1|2|3");
        c.door(1, 1, 1, 0, "3|2|1|0");
        c.door(2, 1, 1, 0, "1|0");
        c.door(3, 1, 1, 0, "(2|1)/(0|3)");
        dueWhy(c, 0, 0, 0, 0, 0, 4);
        dueWhy(c, 1, 0, 0, 0, 0, 1);
        dueWhy(c, 2, 0, 0, 0, 0, 3);
        dueWhy(c, 3, 0, 0, 0, 0, 3);
        dueWhy(c, 0, 0, 0, 0, 16, 2);
        dueWhy(c, 0, 0, 0, 0, 15, 1);
        dueWhy(c, 3, 0, 0, 0, 16, 2);
        dueWhy(c, 3, 0, 0, 0, 15, 1);
        dueWhy(c, 3, 0, 1, 0, 0, 1);
        // Row by row, not column by column.
        c.door(4, 1, 1, 0, "(2|1)/(3|2)");
        dueWhy(c, 4, 0, 0, 0, 0, 3);
        // LEAF f itself need not be there, if no PIECE is cut of it.
        c.door(5, 1, 1, 0, "1");
        dueWhy(c, 5, 0, -1, 0, 0, 4);
        dueWhy(c, 5, 0, -1, 1, 0, 0);
        dueWhy(c, 5, 0, -2, 0, 0, 1);
    }

    private static void whyFarNumbers(Checks c) {
        VeneerDesk x = c.part("why, far numbers");
        x.log(0, 3, 30, 20, 0);
        c.door(0, 5, 6, 0, "9|9|9");
        for (int f : new int[] {LOW, LOW + 9, HIGH, HIGH - 8, HIGH - 9}) {
            dueWhy(c, 0, 0, f, 0, 0, 1);
        }
        c.door(0, 5, 6, 0, "0|0|0");
        for (int far : new int[] {LOW, LOW + 6, HIGH, HIGH - 5, HIGH - 12}) {
            dueWhy(c, 0, 0, 0, far, 0, 2);
            dueWhy(c, 0, 0, 0, 0, far, 2);
            dueWhy(c, 0, 0, 0, far, far, 2);
            dueWhy(c, 0, 0, far, far, far, 1);
            dueWhy(c, far, 0, 0, 0, 0, -1);
            dueWhy(c, 0, far, 0, 0, 0, -1);
            c.due("place of DOOR " + far, x.place(far, 0, 0), -1);
            c.due("place in LOG " + far, x.place(0, far, 0), -1);
            c.due("place, what " + far, x.place(0, 0, far), -1);
            c.due("make of DOOR " + far, x.make(far, 0), -1);
            c.due("make in LOG " + far, x.make(0, far), -1);
            c.due("free(" + far + ")", x.free(far), false);
        }
    }

    private static void whyTones(Checks c) {
        VeneerDesk x = c.part("why, TONES");
        x.log(0, 6, 30, 20, 0);
        x.tone(0, 50, -4);
        c.door(0, 1, 1, 12, "2|5");
        c.door(1, 1, 1, 11, "2|5");
        c.door(2, 1, 1, 11, "5|3|2");
        c.door(3, 1, 1, 0, "5|!5");
        dueWhy(c, 0, 0, 0, 0, 0, 0);
        dueWhy(c, 1, 0, 0, 0, 0, 5);
        dueWhy(c, 2, 0, 0, 0, 0, 5);
        dueWhy(c, 3, 0, 0, 0, 0, 0);
        dueWhy(c, 1, 0, 1, 0, 0, 1);
        dueWhy(c, 1, 0, 0, 0, 20, 2);
        x.flaw(0, 5, 0, 0, 1, 1);
        dueWhy(c, 1, 0, 0, 0, 0, 3);
        dueWhy(c, 1, 0, 0, 0, 1, 5);
        c.due("place with TONES apart", x.place(1, 0, 0), -1);
        c.due("make with TONES apart", x.make(1, 0), -1);
        c.duePlace("place with TONES as far as told", 0, 0, 0, 0, 1);
        x.tone(0, 50, 3);
        dueWhy(c, 1, 0, 0, 0, 1, 0);
        x.tone(0, 50, 4);
        dueWhy(c, 1, 0, 0, 0, 1, 5);
        c.door(4, 1, 1, 0, "0|1");
        dueWhy(c, 4, 0, 0, 0, 0, 5);
        x.tone(0, 50, 0);
        dueWhy(c, 4, 0, 0, 0, 0, 0);
        x.log(1, 12, 30, 20, 0);
        x.tone(1, 50, 5);
        c.door(5, 1, 1, 0, "9/~9");
        dueWhy(c, 5, 1, 2, 0, 0, 0);
        c.duePlace("one LEAF alone", 5, 1, 0, 0, 0);
        c.door(5, 1, 1, 44, "9|0");
        dueWhy(c, 5, 1, 2, 0, 0, 5);
        c.door(5, 1, 1, 45, "9|0");
        dueWhy(c, 5, 1, 2, 0, 0, 0);
    }

    private static void stacks(Checks c) {
        VeneerDesk x = c.part("CUTS of one offset, one above the other");
        x.log(0, 2, 30, 20, 0);
        c.door(0, 5, 7, 0, "(0|1)/(0|0)");
        // Three CUTS of LEAF 0: 21 high; one of LEAF 1.
        dueWhy(c, 0, 0, 0, 9, 0, 0);
        dueWhy(c, 0, 0, 0, 10, 0, 2);
        x.flaw(0, 0, 5, 20, 15, 1);
        x.flaw(0, 1, 10, 7, 5, 1);
        dueWhy(c, 0, 0, 0, 0, 5, 3);
        dueWhy(c, 0, 0, 0, 0, 0, 0);
        dueWhy(c, 0, 0, 0, 1, 10, 3);
        c.duePlace("place left of both FLAWS", 0, 0, 0, 0, 0);
        c.due("make(0, 0)", x.make(0, 0), 4);
        c.due("CUTS of LEAF 0", x.leaf(0, 0, 3), 3);
        c.due("CUTS of LEAF 1", x.leaf(0, 1, 3), 1);
        c.door(1, 1, 1, 0, "0");
        dueWhy(c, 1, 0, 0, 20, 4, 4);
        dueWhy(c, 1, 0, 0, 21, 4, 0);
        dueWhy(c, 1, 0, 1, 6, 4, 4);
        dueWhy(c, 1, 0, 1, 7, 4, 0);
        c.door(2, 5, 16, 0, "0/0");
        dueWhy(c, 2, 0, 0, 0, 15, 2);
        c.due("place of a stack too high", x.place(2, 0, 0), -1);
        x.log(1, 1, 60, 10, 0);
        c.door(3, 10, 1, 0, "4x(0/0/0/0/0/0/0/0)|3x(0/0/0/0/0/0/0/0)|0/0/0/0/1/1/1/1");
        c.due("60 in LEAF 0, but LEAF 1 is missing", x.place(3, 1, 0), -1);
        x.log(1, 2, 60, 10, 0);
        c.duePlace("60 in LEAF 0, 4 in LEAF 1", 3, 1, 0, 0, 0);
        c.due("make(3, 1)", x.make(3, 1), 64);
        c.due("CUTS of LEAF 0", x.leaf(1, 0, 3), 60);
        c.due("CUTS of LEAF 1", x.leaf(1, 1, 3), 4);
        c.door(3, 10, 1, 0, "8x(0/0/0/0/0/0/0/0)");
        c.due("64 in LEAF 0", x.place(3, 1, 0), -1);
    }

    private static void placeOrder(Checks c) {
        VeneerDesk x = c.part("place, the first LEAF, then height, then x");
        x.log(0, 3, 30, 20, 0);
        c.door(0, 8, 9, 0, "0");
        c.duePlace("all free", 0, 0, 0, 0, 0);
        x.flaw(0, 0, 7, 3, 1, 1);
        c.duePlace("beside the FLAW", 0, 0, 0, 0, 8);
        x.flaw(0, 0, 15, 3, 1, 1);
        c.duePlace("below both", 0, 0, 0, 4, 0);
        x.flaw(0, 0, 0, 12, 20, 1);
        c.duePlace("below all", 0, 0, 0, 13, 0);
        x.flaw(0, 0, 0, 21, 12, 1);
        c.duePlace("beside another", 0, 0, 0, 13, 12);
        x.flaw(0, 0, 19, 20, 1, 1);
        c.duePlace("below that one", 0, 0, 0, 21, 12);
        x.flaw(0, 0, 0, 29, 20, 1);
        c.duePlace("in the next LEAF", 0, 0, 1, 0, 0);
        x.drift(0, 1, 0, -20);
        c.duePlace("in the next LEAF, above its FLAW", 0, 0, 1, 0, 0);
        x.flaw(0, 1, 0, 8, 20, 1);
        c.duePlace("in the next LEAF, below its FLAWS", 0, 0, 1, 10, 0);
        x.flaw(0, 1, 0, 11, 1, 1);
        c.duePlace("beside a third", 0, 0, 1, 10, 1);
        x.log(1, 3, 30, 10, 2);
        c.door(1, 12, 9, 0, "0");
        c.duePlace("the first LEAF that is wide", 1, 1, 1, 0, 0);
        x.log(2, 3, 30, 10, -2);
        c.door(2, 8, 9, 0, "0|1");
        c.duePlace("as wide as the narrowest", 2, 2, 0, 0, 0);
        c.door(2, 9, 9, 0, "0|1");
        c.due("wider", x.place(2, 2, 0), -1);
    }

    private static void placeOfSeveralLeaves(Checks c) {
        VeneerDesk x = c.part("place, one height and x in all LEAVES");
        x.log(0, 4, 20, 12, 0);
        x.flaw(0, 0, 0, 0, 2, 20);
        x.flaw(0, 1, 5, 0, 1, 20);
        x.flaw(0, 2, 0, 0, 12, 3);
        x.flaw(0, 3, 11, 0, 1, 1);
        c.door(0, 3, 5, 0, "0|1");
        c.duePlace("LEAVES 0 and 1", 0, 0, 0, 0, 2);
        c.door(0, 4, 5, 0, "0|1");
        c.duePlace("LEAVES 0 and 1, wider", 0, 0, 0, 0, 6);
        c.door(0, 4, 5, 0, "1|0|2");
        c.duePlace("LEAVES 0 to 2", 0, 0, 0, 3, 6);
        c.door(0, 7, 5, 0, "0|1");
        c.duePlace("LEAVES 2 and 3", 0, 0, 2, 3, 0);
        c.door(0, 12, 5, 0, "2|3");
        c.duePlace("LEAVES 2 and 3 from LEAF 0 on", 0, 0, 0, 3, 0);
        c.door(0, 12, 20, 0, "4");
        c.due("LEAF 4", x.place(0, 0, 0), -1);
        c.door(0, 12, 19, 0, "3");
        c.duePlace("LEAF 3 alone, from LEAF 0 on", 0, 0, 0, 1, 0);
    }

    private static void placeNone(Checks c) {
        VeneerDesk x = c.part("place, none");
        x.log(0, 2, 20, 12, 0);
        c.due("no DOOR", x.place(0, 0, 0), -1);
        c.door(0, 12, 20, 0, "0");
        c.due("no LOG", x.place(0, 1, 0), -1);
        c.due("LOG -1", x.place(0, -1, 0), -1);
        c.due("LOG 3", x.place(0, 3, 0), -1);
        c.due("DOOR -1", x.place(-1, 0, 0), -1);
        c.due("DOOR 8", x.place(8, 0, 0), -1);
        c.due("what -1", x.place(0, 0, -1), -1);
        c.due("what 3", x.place(0, 0, 3), -1);
        c.duePlace("just as big as the LEAF", 0, 0, 0, 0, 0);
        c.due("make(0, 0)", x.make(0, 0), 1);
        c.duePlace("of a made DOOR, beside its own CUT", 0, 0, 1, 0, 0);
        c.door(1, 13, 20, 0, "0");
        c.due("too wide", x.place(1, 0, 0), -1);
        c.door(1, 12, 21, 0, "0");
        c.due("too high", x.place(1, 0, 0), -1);
        c.door(1, 60, 60, 0, "0");
        c.due("the widest and highest", x.place(1, 0, 0), -1);
        for (int what = 0; what < 3; what++) {
            c.due("what " + what + " of none", x.place(1, 0, what), -1);
        }
        x.log(2, 12, 60, 40, 2);
        c.duePlace("in the widest LEAF", 1, 2, 10, 0, 0);
    }

    private static void make(Checks c) {
        VeneerDesk x = c.part("make");
        x.log(1, 3, 20, 12, 0);
        x.flaw(1, 0, 0, 0, 2, 2);
        c.door(3, 5, 4, 0, "0|!1|0");
        c.due("make(3, 1)", x.make(3, 1), 3);
        int[] at = {1, 0, 0, 2};
        for (int what = 6; what < 10; what++) {
            c.due("of(3, " + what + ")", x.of(3, what), at[what - 6]);
        }
        c.due("CUTS of LEAF 0", x.leaf(1, 0, 3), 2);
        c.due("CUTS of LEAF 1", x.leaf(1, 1, 3), 1);
        c.due("CUTS of LEAF 2", x.leaf(1, 2, 3), 0);
        c.due("make again", x.make(3, 1), -1);
        c.due("CUTS stay", x.leaf(1, 0, 3), 2);
        c.door(4, 5, 4, 0, "0|!1|0");
        c.duePlace("the next one, with these CUTS", 4, 1, 0, 0, 7);
        c.due("make(4, 1)", x.make(4, 1), 3);
        c.due("of(4, 9)", x.of(4, 9), 7);
        c.duePlace("the third one, below", 4, 1, 0, 8, 0);
        c.door(5, 12, 20, 0, "2");
        c.due("make(5, 1)", x.make(5, 1), 1);
        c.due("CUTS of LEAF 2", x.leaf(1, 2, 3), 1);
        c.due("of(5, 7), the LEAF that it is counted from", x.of(5, 7), 0);
        c.due("a FLAW that comes later", x.flaw(1, 2, 0, 0, 1, 1), 1);
        c.due("the DOOR stays made", x.of(5, 6), 1);
        x.log(0, 1, 10, 10, 0);
        c.door(6, 4, 4, 0, "0");
        c.due("make(6, 0)", x.make(6, 0), 1);
        x.flaw(0, 0, 0, 0, 4, 4);
        c.door(7, 4, 4, 0, "0");
        c.duePlace("beside a CUT with a FLAW in it", 7, 0, 0, 0, 4);
    }

    private static void makeNone(Checks c) {
        VeneerDesk x = c.part("make, none");
        x.log(0, 1, 20, 12, 0);
        x.log(1, 1, 20, 12, 0);
        c.due("no DOOR", x.make(0, 0), -1);
        c.door(0, 12, 20, 0, "0");
        c.due("no LOG", x.make(0, 2), -1);
        c.due("LOG -1", x.make(0, -1), -1);
        c.due("LOG 3", x.make(0, 3), -1);
        c.due("DOOR -1", x.make(-1, 0), -1);
        c.due("DOOR 8", x.make(8, 0), -1);
        c.door(1, 1, 1, 0, "0");
        c.due("make(0, 0)", x.make(0, 0), 1);
        c.due("no PLACE", x.make(1, 0), -1);
        c.due("it is not made", x.of(1, 6), -1);
        c.due("nor cut", x.leaf(0, 0, 3), 1);
        c.due("a made one, in another LOG", x.make(0, 1), -1);
        c.due("it is not cut there", x.leaf(1, 0, 3), 0);
        c.due("and is where it was", x.of(0, 6), 0);
    }

    private static void free(Checks c) {
        VeneerDesk x = c.part("free");
        x.log(0, 2, 20, 12, 0);
        c.door(0, 6, 10, 0, "(0|1)/(0|1)");
        c.door(1, 6, 10, 0, "(0|1)/(0|1)");
        c.due("a DOOR that is not made", x.free(0), false);
        c.due("make(0, 0)", x.make(0, 0), 4);
        c.due("make(1, 0)", x.make(1, 0), 4);
        c.due("CUTS", x.leaf(0, 0, 3), 4);
        c.due("free(0)", x.free(0), true);
        c.due("CUTS of LEAF 0", x.leaf(0, 0, 3), 2);
        c.due("CUTS of LEAF 1", x.leaf(0, 1, 3), 2);
        for (int what = 6; what < 10; what++) {
            c.due("of(0, " + what + ")", x.of(0, what), -1);
        }
        dueWhy(c, 0, 0, 0, 0, 0, 0);
        dueWhy(c, 0, 0, 0, 0, 6, 4);
        dueWhy(c, 0, 0, 0, 0, 1, 4);
        c.due("the other one stays made", x.of(1, 6), 0);
        c.due("free(0) again", x.free(0), false);
        c.due("make(0, 0) again", x.make(0, 0), 4);
        c.due("at the same x", x.of(0, 9), 0);
        c.due("free(1)", x.free(1), true);
        c.due("the DOOR is there", x.of(1, 0), 2);
        c.due("free(2)", x.free(2), false);
        c.due("free(-1)", x.free(-1), false);
        c.due("free(8)", x.free(8), false);
    }

    private static void lostCuts(Checks c) {
        VeneerDesk x = c.part("lost CUTS");
        x.log(0, 1, 60, 40, 0);
        // 40 of 60 rows, one column after the other: 1600 CUTS of DOORS that are told anew.
        for (int n = 1; n <= 40; n++) {
            c.door(n % 8, 1, 1, 0, "8x(0/0/0/0/0)");
            c.due("make " + n, x.make(n % 8, 0), 40);
            c.due("CUTS " + n, x.leaf(0, 0, 3), 40 * n);
        }
        c.door(0, 1, 1, 0, "8x(0/0/0/0/0)");
        c.due("no column is left", x.make(0, 0), -1);
        c.door(0, 40, 1, 0, "0");
        c.duePlace("the first whole row", 0, 0, 0, 40, 0);
        c.due("make it", x.make(0, 0), 1);
        c.due("CUTS", x.leaf(0, 0, 3), 1601);
    }
}
