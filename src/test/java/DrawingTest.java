/** Promises 10 to 15: door, fault, of, piece, joint, same. */
public final class DrawingTest {
    private static final int LOW = Integer.MIN_VALUE;
    private static final int HIGH = Integer.MAX_VALUE;
    private static final int OVER = 16;
    private static final int UPSIDE = 32;

    public static void main(String[] args) {
        Checks c = new Checks();
        pieces(c);
        manyOpen(c);
        misplaced(c);
        unequal(c);
        tooBig(c);
        firstFault(c);
        doorNumbers(c);
        doorBefore(c);
        fault(c);
        of(c);
        piece(c);
        joint(c);
        jointsOfAllKinds(c);
        same(c);
        c.finish();
    }

    private static void pieces(Checks c) {
        c.part("texts");
        c.duePieces("9", 1, 9);
        c.duePieces(" \n7\n ", 1, 7);
        c.duePieces("0|1|2", 3, 0, 1, 2);
        c.duePieces("0/1/2", 1, 0, 1, 2);
        c.duePieces("0/1|2/3", 2, 0, 2, 1, 3);
        c.duePieces("(0|1)/(2|3)", 2, 0, 1, 2, 3);
        c.duePieces("( 0 | 1 ) / ( 2 | 3 )", 2, 0, 1, 2, 3);
        c.duePieces("((5))", 1, 5);
        c.duePieces("2x3", 2, 3, 3);
        c.duePieces("2x3x0", 6, 0, 0, 0, 0, 0, 0);
        c.duePieces("2x((0|1)/(0|2))", 4, 0, 1, 0, 1, 0, 2, 0, 2);
    }

    private static void manyOpen(Checks c) {
        c.part("changed parts");
        c.duePieces("!0", 1, OVER);
        c.duePieces("!!0", 1, 0);
        c.duePieces("~0", 1, OVER + UPSIDE);
        c.duePieces("~~0", 1, 0);
        c.duePieces("~~(0/1)", 1, 0, 1);
        c.duePieces("!~0", 1, UPSIDE);
        c.duePieces("~!0", 1, UPSIDE);
        c.duePieces("!(0|1|2)", 3, 2 + OVER, 1 + OVER, OVER);
        c.duePieces("!(0/1)", 1, OVER, 1 + OVER);
        c.duePieces("~(0/1)", 1, 1 + OVER + UPSIDE, OVER + UPSIDE);
        c.duePieces("~((0|1)/(2|3)/(4|5))", 2, 53, 52, 51, 50, 49, 48);
        c.duePieces("!~((0|1)/(2|3))", 2, 34, 35, 32, 33);
        c.duePieces("2x!(0|1)", 4, 17, 16, 17, 16);
        c.duePieces("!2x(0|1)", 4, 17, 16, 17, 16);
        c.duePieces("0|!(1|!2)|3", 4, 0, 2, 17, 3);
        c.duePieces("(0|1)/~(2|3)", 2, 0, 1, 51, 50);
        c.duePieces("!0|0", 2, OVER, 0);
        c.duePieces("!0/0", 1, OVER, 0);
        c.duePieces("2x0|1", 3, 0, 0, 1);
        c.duePieces("2x0/2x1", 2, 0, 0, 1, 1);
        c.duePieces("((((((3))))))", 1, 3);
        c.duePieces("!~!~!~3", 1, 3 + UPSIDE);
        c.duePieces("!!!!!(3|4)", 2, 4 + OVER, 3 + OVER);
        c.duePieces("(((((2x4)))))", 2, 4, 4);
        c.duePieces("2x2x2x!!(1)", 8, 1, 1, 1, 1, 1, 1, 1, 1);
        c.part("as big as can be");
        c.due("8 by 8", c.door(0, 1, 1, 0, "8x(0/1/2/3/4/5/6/7)"), 64);
        for (int row = 0; row < 8; row++) {
            c.due("row " + row, c.desk.piece(0, 7, row), row);
        }
        c.due("8 by 8, turned", c.door(1, 1, 1, 0, "~(((0|1|2|3|4|5|6|7)/8x8)/6x0|6x0)"), -1);
        c.due("8 by 8, turned", c.door(1, 1, 1, 0, "~((0|1|2|3|4|5|6|7)/8x8/8x(0/1/2/3/4/5))"), 64);
        for (int column = 0; column < 8; column++) {
            c.due("last row " + column, c.desk.piece(1, column, 7), 48 + 7 - column);
        }
    }

    private static void misplaced(Checks c) {
        c.part("fault 1");
        c.dueFault("", 1, 0);
        c.dueFault("   ", 1, 3);
        c.dueFault("\n", 1, 1);
        c.dueFault("a", 1, 0);
        c.dueFault(" a", 1, 1);
        c.dueFault("|", 1, 0);
        c.dueFault("x", 1, 0);
        c.dueFault(")", 1, 0);
        c.dueFault("0|", 1, 2);
        c.dueFault("0| ", 1, 3);
        c.dueFault("0/", 1, 2);
        c.dueFault("0||0", 1, 2);
        c.dueFault("0/|0", 1, 2);
        c.dueFault("00", 1, 1);
        c.dueFault("0 0", 1, 2);
        c.dueFault("12", 1, 1);
        c.dueFault("0!0", 1, 1);
        c.dueFault("0(0)", 1, 1);
        c.dueFault("()", 1, 1);
        c.dueFault("(0", 1, 2);
        c.dueFault("(0 ", 1, 3);
        c.dueFault("(0))", 1, 3);
        c.dueFault("(0a)", 1, 2);
        c.dueFault("!", 1, 1);
        c.dueFault("~|", 1, 1);
        c.dueFault("2x", 1, 2);
        c.dueFault("2x|0", 1, 2);
        c.dueFault("2X0", 1, 1);
        c.dueFault("0x0", 1, 1);
        c.dueFault("1x0", 1, 1);
        c.dueFault("(0)x0", 1, 3);
        c.dueFault("0\t", 1, 1);
        c.dueFault("0\r", 1, 1);
        c.dueFault("0\0", 1, 1);
        c.dueFault("0\u00ff", 1, 1);
        c.dueFault("/", 1, 0);
        c.dueFault(":", 1, 0);
        c.part("a 7th open part");
        c.dueFault("(((((((0)))))))", 1, 6);
        c.dueFault("!!!!!!!0", 1, 6);
        c.dueFault("~~~~~~~0", 1, 6);
        c.dueFault("!!!!!! 2 x 0", 1, 7);
        c.dueFault("!!!!!!9x", 1, 6);
        c.dueFault("((((((2x0))))))", 1, 6);
        c.dueFault("2x!(~!!(0))", 1, 7);
        c.dueFault("((((((1x0))))))", 1, 7);
        c.dueFault("!!!!!!a", 1, 6);
        c.due("6 open, and 6 again", c.door(0, 1, 1, 0, "((((((0))))))|!!!!!!0|((((((0/1))))))"), -1);
        c.due("its FAULT", c.desk.fault(0), 2);
        c.due("6 open, and 6 again", c.door(0, 1, 1, 0, "((((((0))))))|!!!!!!0|((((((1))))))"), 3);
    }

    private static void unequal(Checks c) {
        c.part("fault 2");
        c.dueFault("0|0/0", 2, 1);
        c.dueFault("0/0|0", 2, 3);
        c.dueFault("0 | 0/0", 2, 2);
        c.dueFault("(0|0)/0", 2, 5);
        c.dueFault("0/(0|0)", 2, 1);
        c.dueFault("0/2x0", 2, 1);
        c.dueFault("0|0|0/0", 2, 3);
        c.dueFault("0/0/2x0", 2, 3);
        c.dueFault("(0|0/0)", 2, 2);
        c.dueFault("!(0/2x0)", 2, 3);
        c.dueFault("2x(0|0/0)", 2, 4);
    }

    private static void tooBig(Checks c) {
        c.part("fault 3");
        c.dueFault("9x0", 3, 1);
        c.dueFault("9 x 0", 3, 2);
        c.dueFault("3x3x0", 3, 1);
        c.dueFault("5x(0|0)", 3, 1);
        c.dueFault("8x0|0", 3, 3);
        c.dueFault("4x0|5x0", 3, 3);
        c.dueFault("0|0|0|0|0|0|0|0|0", 3, 15);
        c.dueFault("0/0/0/0/0/0/0/0/0", 3, 15);
        c.dueFault("0/0/0/0/0/0/0/(0/0)", 3, 13);
        c.dueFault("0|(8x1)", 3, 1);
        c.dueFault("8x0/(4x0|5x0)", 3, 8);
        c.dueFault("(0/0/0/0/0)/(0/0/0/0)", 3, 11);
        c.dueFault("7x0|(0|(0|(0|(0|0))))", 3, 3);
        c.due("8 wide at last", c.door(0, 1, 1, 0, "4x0|4x0"), 8);
        c.due("8 high at last", c.door(0, 1, 1, 0, "0/0/0/0/0/0/0/0"), 8);
    }

    private static void firstFault(Checks c) {
        c.part("the first FAULT that is met");
        // 2 ahead of 3, at one sign.
        c.dueFault("8x0|0/0", 2, 3);
        c.dueFault("0/0/0/0/0/0/0/0/2x0", 2, 15);
        // What is behind the sign is read first.
        c.dueFault("8x0|0/a", 1, 6);
        c.dueFault("0|(0/0|0)", 2, 6);
        c.dueFault("9x9x0", 3, 3);
        c.dueFault("9x(0|0/0)", 2, 4);
        c.dueFault("9x", 1, 2);
        c.dueFault("9x(0", 1, 4);
        // A part is read when its end is met: what stands behind does not matter.
        c.dueFault("9x0a", 3, 1);
        c.dueFault("9x0x", 3, 1);
        c.dueFault("0/2x0a", 2, 1);
        // A COLUMN is read as soon as no / stands behind it.
        c.dueFault("0|0/0a", 2, 1);
        c.dueFault("0|0/0)", 2, 1);
        c.dueFault("(0|0/0", 2, 2);
        c.dueFault("0|0/0/2x0", 2, 5);
        c.dueFault("0|0/0/a", 1, 6);
        c.dueFault("8x0|0 x", 3, 3);
        c.dueFault("0/0|0x", 2, 3);
    }

    private static void doorNumbers(Checks c) {
        VeneerDesk x = c.part("door, numbers");
        int[][] wrong = {
            {-1, 1, 1, 0}, {8, 1, 1, 0}, {LOW, 1, 1, 0}, {HIGH, 1, 1, 0}, {0, 0, 1, 0}, {0, 61, 1, 0},
            {0, LOW, 1, 0}, {0, HIGH, 1, 0}, {0, 1, 0, 0}, {0, 1, 61, 0}, {0, 1, LOW, 0}, {0, 1, HIGH, 0},
            {0, 1, 1, -1}, {0, 1, 1, 201}, {0, 1, 1, LOW}, {0, 1, 1, HIGH},
        };
        c.tape("0|a");
        c.due("a FAULT first", x.door(0, 1, 1, 0), -1);
        c.tape("0|1");
        for (int[] w : wrong) {
            String call = "door(" + w[0] + ", " + w[1] + ", " + w[2] + ", " + w[3] + ")";
            c.due(call, x.door(w[0], w[1], w[2], w[3]), -2);
            c.due(call + " made none", x.of(0, 0), -1);
            c.due(call + " left the FAULT", x.fault(0), 1);
            c.due(call + " left its place", x.fault(1), 2);
        }
        c.due("the tape stays", x.end(3), true);
        c.due("door(7, 60, 60, 200)", x.door(7, 60, 60, 200), 2);
        c.due("the tape goes", x.end(1), false);
        c.due("fault(0)", x.fault(0), 0);
        c.tape("0|a");
        c.due("a number that can't be, ahead of a FAULT", x.door(0, 0, 1, 0), -2);
        c.due("fault(0) stays", x.fault(0), 0);
        c.due("and then the FAULT", x.door(0, 1, 1, 0), -1);
        c.due("the tape goes with a FAULT too", x.end(1), false);
    }

    private static void doorBefore(Checks c) {
        VeneerDesk x = c.part("the DOOR before");
        x.log(0, 2, 20, 20, 0);
        c.door(0, 10, 20, 0, "0");
        c.due("make(0, 0)", x.make(0, 0), 1);
        c.due("a FAULT", c.door(0, 1, 1, 0, "0|(1|2"), -1);
        c.due("it stays 1 wide", x.of(0, 0), 1);
        c.due("it stays made", x.of(0, 6), 0);
        c.due("a number that can't be", c.door(0, 1, 61, 0, "0|1"), -2);
        c.due("it stays made", x.of(0, 6), 0);
        x.end(0);
        c.due("a new DRAWING", c.door(0, 10, 20, 0, "1|0"), 2);
        c.due("of(0, 0)", x.of(0, 0), 2);
        c.due("it is not made", x.of(0, 6), -1);
        c.due("nor has a LEAF", x.of(0, 7), -1);
        c.due("nor a height", x.of(0, 8), -1);
        c.due("nor an x", x.of(0, 9), -1);
        c.due("its CUT is lost", x.leaf(0, 0, 3), 1);
        c.due("free(0)", x.free(0), false);
        c.due("its CUT stays lost", x.why(0, 0, 0, 0, 0), 4);
        c.due("make(0, 0) beside it", x.make(0, 0), 2);
        c.due("free(0)", x.free(0), true);
        c.due("its CUT stays lost", x.leaf(0, 0, 3), 1);
        c.due("and of LEAF 1 none is", x.leaf(0, 1, 3), 0);
    }

    private static void fault(Checks c) {
        VeneerDesk x = c.part("fault");
        c.due("ahead of any", x.fault(0), 0);
        c.due("its place", x.fault(1), -1);
        for (int what : new int[] {-1, 2, LOW, HIGH}) {
            c.due("fault(" + what + ")", x.fault(what), -1);
        }
        c.dueFault("0|0/0", 2, 1);
        for (int what : new int[] {-1, 2, LOW, HIGH}) {
            c.due("fault(" + what + ")", x.fault(what), -1);
        }
        c.due("without", c.door(1, 1, 1, 0, "0"), 1);
        c.due("fault(0)", x.fault(0), 0);
        c.due("fault(1)", x.fault(1), -1);
    }

    private static void of(Checks c) {
        VeneerDesk x = c.part("of");
        c.door(1, 2, 3, 0, "(0|!1|9)/(1|!2|8)");
        int[] want = {3, 2, 9, 2, 0, 5, -1, -1, -1, -1};
        for (int what = 0; what < 10; what++) {
            c.due("of(1, " + what + ")", x.of(1, what), want[what]);
        }
        x.log(2, 12, 20, 20, 0);
        x.flaw(2, 0, 0, 0, 1, 1);
        c.due("make(1, 2)", x.make(1, 2), 6);
        int[] made = {2, 0, 0, 1};
        for (int what = 6; what < 10; what++) {
            c.due("of(1, " + what + "), made", x.of(1, what), made[what - 6]);
        }
        for (int what : new int[] {-1, 10, LOW, HIGH}) {
            c.due("of(1, " + what + ")", x.of(1, what), -1);
        }
        for (int d : new int[] {-1, 0, 2, 7, 8, LOW, HIGH}) {
            c.due("of(" + d + ", 0)", x.of(d, 0), -1);
        }
        c.door(1, 1, 1, 0, "3|2|3");
        c.due("the greatest offset of another DRAWING", x.of(1, 2), 3);
        c.due("no JOINT that matches", x.of(1, 3), 0);
        c.due("one SLIP", x.of(1, 4), 1);
        c.due("one that is NONE", x.of(1, 5), 1);
    }

    private static void piece(Checks c) {
        VeneerDesk x = c.part("piece");
        c.door(5, 1, 1, 0, "(0|!1|~2)/(3|4|5)");
        int[] want = {0, 17, 50, 3, 4, 5};
        for (int k = 0; k < 6; k++) {
            c.due("piece(5, " + k % 3 + ", " + k / 3 + ")", x.piece(5, k % 3, k / 3), want[k]);
        }
        int[][] wrong = {
            {4, 0, 0}, {-1, 0, 0}, {8, 0, 0}, {LOW, 0, 0}, {HIGH, 0, 0}, {5, -1, 0}, {5, 3, 0}, {5, 0, -1},
            {5, 0, 2}, {5, LOW, 0}, {5, HIGH, 0}, {5, 0, LOW}, {5, 0, HIGH}, {5, 8, 0}, {5, 0, 8},
        };
        for (int[] w : wrong) {
            c.due("piece(" + w[0] + ", " + w[1] + ", " + w[2] + ")", x.piece(w[0], w[1], w[2]), -1);
        }
    }

    private static void joint(Checks c) {
        VeneerDesk x = c.part("joint");
        c.door(0, 1, 1, 0, "(0|1|!2)/(~!1|0|3)");
        c.due("0 and 1: SLIP", x.joint(0, 0, 0, false), 1);
        c.due("1 and !2: BOOK", x.joint(0, 1, 0, false), 2);
        c.due("0 above ~!1: BOOK", x.joint(0, 0, 0, true), 2);
        c.due("1 above 0: NONE", x.joint(0, 1, 0, true), 0);
        c.due("~!1 and 0: NONE", x.joint(0, 0, 1, false), 0);
        int[][] wrong = {
            {0, 2, 0, 0}, {0, 0, 1, 1}, {0, -1, 0, 0}, {0, 0, -1, 1}, {0, 0, -1, 0}, {0, -1, 0, 1},
            {0, 3, 0, 1}, {0, 0, 2, 0}, {1, 0, 0, 0}, {-1, 0, 0, 0}, {8, 0, 0, 0}, {0, HIGH, 0, 0},
            {0, 0, HIGH, 1}, {0, LOW, 0, 0}, {0, 0, LOW, 1}, {LOW, 0, 0, 0}, {HIGH, 0, 0, 1},
        };
        for (int[] w : wrong) {
            String call = "joint(" + w[0] + ", " + w[1] + ", " + w[2] + ", " + (w[3] == 1) + ")";
            c.due(call, x.joint(w[0], w[1], w[2], w[3] == 1), -1);
        }
    }

    /** Every pair of changes and steps, told from the words of the document. */
    private static void jointsOfAllKinds(Checks c) {
        String[] signs = {"", "!", "!~", "~"};
        for (int left = 0; left < 4; left++) {
            c.part("joints");
            for (int right = 0; right < 4; right++) {
                for (int offset = 2; offset <= 6; offset++) {
                    int step = offset - 4;
                    boolean apart = step == 1 || step == -1;
                    boolean leftOver = left % 2 == 1;
                    boolean rightOver = right % 2 == 1;
                    boolean asUpside = left / 2 == right / 2;
                    boolean bookBeside = apart && asUpside && leftOver != rightOver;
                    boolean slip = asUpside && (step == 1 && !leftOver && !rightOver
                        || step == -1 && leftOver && rightOver);
                    boolean bookBelow = apart && leftOver == rightOver && !asUpside;
                    String a = signs[left] + "4";
                    String b = signs[right] + offset;
                    c.door(0, 1, 1, 0, a + "|" + b);
                    c.due(a + "|" + b, c.desk.joint(0, 0, 0, false), bookBeside ? 2 : slip ? 1 : 0);
                    c.door(0, 1, 1, 0, a + "/" + b);
                    c.due(a + "/" + b, c.desk.joint(0, 0, 0, true), bookBelow ? 2 : 0);
                }
            }
        }
    }

    private static void same(Checks c) {
        VeneerDesk x = c.part("same");
        c.door(0, 5, 5, 0, "(0|!1)/(2|3)");
        c.door(1, 60, 1, 200, "(0|!1)/(2|3)");
        c.door(2, 5, 5, 0, "!((0|!1)/(2|3))");
        c.door(3, 5, 5, 0, "~((0|!1)/(2|3))");
        c.door(4, 5, 5, 0, "0|!1|2|3");
        c.door(5, 5, 5, 0, "(0|!1)/(2|4)");
        c.door(6, 5, 5, 0, "0/!1/2/3");
        int[][] want = {
            {0, 0, 0, 1}, {0, 1, 0, 1}, {1, 0, 0, 1}, {0, 2, 0, 0}, {0, 3, 0, 0}, {0, 4, 0, 0}, {0, 5, 0, 0},
            {4, 6, 0, 0}, {0, 0, 1, 0}, {0, 1, 1, 0}, {0, 2, 1, 1}, {2, 0, 1, 1}, {0, 3, 1, 0}, {0, 0, 2, 0},
            {0, 2, 2, 0}, {0, 3, 2, 1}, {3, 1, 2, 1}, {2, 3, 2, 0}, {5, 2, 1, 0}, {5, 3, 2, 0},
            {0, 7, 0, -1}, {7, 0, 0, -1}, {0, -1, 0, -1}, {-1, 0, 0, -1}, {8, 0, 0, -1}, {0, 8, 0, -1},
            {0, 0, -1, -1}, {0, 0, 3, -1}, {0, 0, LOW, -1}, {0, 0, HIGH, -1}, {LOW, HIGH, 0, -1},
        };
        for (int[] w : want) {
            c.due("same(" + w[0] + ", " + w[1] + ", " + w[2] + ")", x.same(w[0], w[1], w[2]), w[3]);
        }
        String[][] unlike = {
            {"0|1", "0|1|2"}, {"0|1|2", "0|1"}, {"0/1", "0/1/2"}, {"0/1/2", "0/1"}, {"0|1|2", "3|1|2"},
            {"0/1/2", "3/1/2"}, {"0|1|2", "0|1|3"}, {"0/1/2", "0/1/3"}, {"0", "!0"}, {"0", "!~0"},
        };
        for (String[] pair : unlike) {
            c.door(0, 1, 1, 0, pair[0]);
            c.door(1, 1, 1, 0, pair[1]);
            c.due(pair[0] + " and " + pair[1], x.same(0, 1, 0), 0);
        }
        c.door(7, 1, 1, 0, "0|!0");
        c.due("a DRAWING that is its own glass", x.same(7, 7, 1), 1);
        c.door(7, 1, 1, 0, "0/~0");
        c.due("a DRAWING that is itself, turned", x.same(7, 7, 2), 1);
    }
}
