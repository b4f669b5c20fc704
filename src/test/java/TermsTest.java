import java.util.Arrays;

/** The document from its first line up to its promises, sentence by sentence. */
public final class TermsTest {
    private static final int OVER = 16;
    private static final int UPSIDE = 32;
    private static final int BOOK = 2;
    private static final int SLIP = 1;
    private static final int NO_MATCH = 0;
    /** What stands ahead of a digit that is neither, OVER, UPSIDE, both. */
    private static final String[] SIGNS = {"", "!", "!~", "~"};

    /** Two PIECES: how much more the second one's offset is, and how they are turned. */
    private interface Pair {
        boolean is(int step, boolean over, boolean secondOver, boolean asUpside);
    }

    private final Checks c = new Checks();
    private final Document document = new Document(c, "## What it is", "## Promise 1");

    public static void main(String[] args) {
        TermsTest t = new TermsTest();
        t.whatItIs();
        t.logs();
        t.widths();
        t.tones();
        t.flaws();
        t.flawsThatDrift();
        t.flawNumbers();
        t.beyondTheLeaf();
        t.overlap();
        t.blanks();
        t.rowsAndColumns();
        t.parts();
        t.glassAndTurned();
        t.openParts();
        t.sizes();
        t.firstFault();
        t.faultOne();
        t.atTheSign();
        t.faultTwo();
        t.faultThree();
        t.columnIsRead();
        t.pieces();
        t.jointsBeside();
        t.jointsBelow();
        t.doors();
        t.cuts();
        t.leavesAndSides();
        t.flawsAndCuts();
        t.tonesApart();
        t.place();
        t.planOfWhich();
        t.planFewest();
        t.planOrder();
        t.constants();
        t.document.end();
        t.c.finish();
    }

    private void whatItIs() {
        document.says("A desk for whoever covers doors with leaves cut one behind the other from logs: drawings told"
            + " by a small text, pieces turned over and upside down whose grain meets as in a glass, flaws that drift"
            + " from leaf to leaf cut round, places found for whole rows of leaves at one height, and as few logs for"
            + " all doors as can be.");
        VeneerDesk x = document.says("An object is used for at most 512 calls after it has been made;");
        x.log(0, 1, 60, 40, 0);
        for (int n = 1; n <= 170; n++) {
            x.feed(0x30202020, 0x20202020, 0x20202020, 0x20202020, 0x20202020);
            x.door(n % 8, 1, 1, 0);
            x.make(n % 8, 0);
        }
        c.due("the 512th call", x.leaf(0, 0, 3), 170);
        document.says("what later calls answer is free.");
    }

    private void logs() {
        VeneerDesk x = document.says("I. LOGS 0 .. 2 have LEAVES 0 .. n - 1 (n 1 .. 12), in the order in which they were cut.");
        for (int l = -1; l <= 3; l++) {
            c.due("LOG " + l, x.log(l, 3, 30, 20, 1), 0 <= l && l <= 2);
            c.due("its LEAF 2", x.leaf(l, 2, 0), 0 <= l && l <= 2 ? 22 : -1000);
        }
        c.due("no LEAVES", x.log(0, 0, 30, 20, 1), false);
        c.due("13 LEAVES", x.log(0, 13, 30, 20, 1), false);
        for (int n = 1; n <= 12; n++) {
            c.due(n + " LEAVES", x.log(0, n, 30, 20, 1), true);
            for (int i = -1; i <= 12; i++) {
                c.due("LEAF " + i + " of " + n, x.leaf(0, i, 0), 0 <= i && i < n ? 20 + i : -1000);
            }
        }
        x = document.says("A LEAF is a box: x from 0 to its WIDTH, y from 0 to the LOG's LENGTH (10 .. 60):");
        for (int length = 10; length <= 60; length++) {
            c.due("LENGTH " + length, x.log(1, 2, length, 10, 1), true);
            c.due("its box", x.hit(1, 1, 0, 0, 11, length), -1);
            c.due("longer", x.hit(1, 1, 0, 0, 11, length + 1), -3);
        }
        c.due("LENGTH 9", x.log(1, 2, 9, 10, 1), false);
        c.due("LENGTH 61", x.log(1, 2, 61, 10, 1), false);
        c.due("left of it", x.hit(1, 1, -1, 0, 11, 60), -3);
        c.due("right of it", x.hit(1, 1, 1, 0, 11, 60), -3);
        c.due("wider", x.hit(1, 1, 0, 0, 12, 60), -3);
        c.due("above it", x.hit(1, 1, 0, -1, 11, 60), -3);
        c.due("below it", x.hit(1, 1, 0, 1, 11, 60), -3);
    }

    private void widths() {
        VeneerDesk x = document.says("WIDTH of LEAF i: wide and i times grows (wide 10 .. 40, grows -2 .. 2), but 1 at least.");
        c.due("wide 9", x.log(0, 2, 30, 9, 0), false);
        c.due("wide 41", x.log(0, 2, 30, 41, 0), false);
        c.due("grows -3", x.log(0, 2, 30, 20, -3), false);
        c.due("grows 3", x.log(0, 2, 30, 20, 3), false);
        for (int wide = 10; wide <= 40; wide++) {
            c.due("wide " + wide, x.log(0, 2, 30, wide, 0), true);
            c.due("WIDTH", x.leaf(0, 1, 0), wide);
        }
        for (int grows = -2; grows <= 2; grows++) {
            for (int wide : new int[] {10, 17, 40}) {
                c.due("grows " + grows, x.log(0, 12, 30, wide, grows), true);
                for (int i = 0; i < 12; i++) {
                    c.due("WIDTH of LEAF " + i, x.leaf(0, i, 0), Math.max(1, wide + i * grows));
                }
            }
        }
    }

    private void tones() {
        VeneerDesk x = document.says("TONE of LEAF i: tone and i times darkens (tone 0 .. 100, darkens -5 .. 5).");
        x.log(0, 12, 30, 20, 0);
        c.due("tone -1", x.tone(0, -1, 0), false);
        c.due("tone 101", x.tone(0, 101, 0), false);
        c.due("darkens -6", x.tone(0, 30, -6), false);
        c.due("darkens 6", x.tone(0, 30, 6), false);
        for (int tone = 0; tone <= 100; tone++) {
            c.due("tone " + tone, x.tone(0, tone, 0), true);
            c.due("TONE", x.leaf(0, 11, 1), tone);
        }
        for (int darkens = -5; darkens <= 5; darkens++) {
            c.due("darkens " + darkens, x.tone(0, 30, darkens), true);
            for (int i = 0; i < 12; i++) {
                c.due("TONE of LEAF " + i, x.leaf(0, i, 1), 30 + i * darkens);
            }
        }
    }

    private void flaws() {
        VeneerDesk x = document.says("FLAWS of a LOG, 0 .. 9 as they were told:");
        x.log(0, 1, 30, 20, 0);
        for (int k = 0; k < 10; k++) {
            c.due("FLAW " + k, x.flaw(0, 0, 9 - k, 0, 1, 1), k);
        }
        for (int k = 0; k < 10; k++) {
            c.due("the one at x " + (9 - k), x.hit(0, 0, 9 - k, 0, 1, 1), k);
        }
        c.due("an eleventh", x.flaw(0, 0, 10, 0, 1, 1), -1);
        x = document.says("a box, from a LEAF on, up to another one (with it):");
        for (int first = 0; first < 5; first++) {
            for (int last = first; last < 5; last++) {
                x.log(0, 5, 30, 20, 0);
                x.flaw(0, first, 3, 3, 1, 1);
                c.due("from " + first + " to " + last, x.drift(0, last, 0, 0), true);
                for (int i = 0; i < 5; i++) {
                    c.due("from " + first + " to " + last + ", LEAF " + i, x.leaf(0, i, 2), first <= i && i <= last ? 1 : 0);
                }
            }
        }
    }

    private void flawsThatDrift() {
        document.says("in LEAF i: x from its x and (i less the first) times dx, likewise y and dy, as wide and high as told");
        int[][] drifts = {{0, 0}, {1, 0}, {0, 1}, {2, -1}, {-1, 2}, {-3, -2}};
        for (int[] drift : drifts) {
            for (int i = 1; i < 4; i++) {
                dueBox(drift[0], drift[1], i, 4 + (i - 1) * drift[0], 3 + (i - 1) * drift[1]);
            }
        }
    }

    /** From LEAF 1 on, 2 wide and 3 high: every 1 of a LEAF of 10 by 10 overlaps it just where it is. */
    private void dueBox(int dx, int dy, int i, int left, int top) {
        VeneerDesk x = c.anew();
        x.log(0, 4, 10, 10, 0);
        x.flaw(0, 1, 4, 3, 2, 3);
        x.drift(0, 3, dx, dy);
        c.door(0, 1, 1, 0, "0");
        for (int k = 0; k < 100; k++) {
            boolean inX = left <= k % 10 && k % 10 < left + 2;
            boolean inY = top <= k / 10 && k / 10 < top + 3;
            String call = "dx " + dx + ", dy " + dy + ", LEAF " + i + " at " + k % 10 + ", " + k / 10;
            c.due(call + ", hit", x.hit(0, i, k % 10, k / 10, 1, 1), inX && inY ? 0 : -1);
            c.due(call + ", why", x.why(0, 0, i, k / 10, k % 10), inX && inY ? 3 : 0);
        }
    }

    private void flawNumbers() {
        VeneerDesk x = document.says("(x, y 0 .. 100; dx, dy -20 .. 20; 1 .. 100 wide and high);");
        x.log(0, 2, 60, 40, 0);
        x.flaw(0, 0, 0, 0, 1, 1);
        for (int k = -21; k <= 21; k++) {
            c.due("dx " + k, x.drift(0, 1, k, 0), -20 <= k && k <= 20);
            c.due("dy " + k, x.drift(0, 1, 0, k), -20 <= k && k <= 20);
        }
        for (int k = -1; k <= 101; k++) {
            x = c.anew();
            x.log(0, 2, 60, 40, 0);
            c.due("x " + k, x.flaw(0, 0, k, 0, 1, 1) >= 0, 0 <= k && k <= 100);
            c.due("y " + k, x.flaw(0, 0, 0, k, 1, 1) >= 0, 0 <= k && k <= 100);
            c.due(k + " wide", x.flaw(0, 0, 0, 0, k, 1) >= 0, 1 <= k && k <= 100);
            c.due(k + " high", x.flaw(0, 0, 0, 0, 1, k) >= 0, 1 <= k && k <= 100);
        }
    }

    private void beyondTheLeaf() {
        VeneerDesk x = document.says("what is beyond the LEAF is nothing.");
        x.log(0, 3, 10, 10, -2);
        x.flaw(0, 0, 8, 0, 5, 10);
        x.drift(0, 2, 0, 0);
        c.due("its part in LEAF 0", x.leaf(0, 0, 2), 1);
        c.due("nothing in LEAF 1, 8 wide", x.leaf(0, 1, 2), 0);
        c.due("the whole LEAF 1", x.hit(0, 1, 0, 0, 8, 10), -1);
        x.flaw(0, 1, 0, 8, 8, 5);
        x.drift(0, 2, 0, 2);
        c.due("its part in LEAF 1", x.leaf(0, 1, 2), 1);
        c.due("nothing in LEAF 2, 10 long", x.leaf(0, 2, 2), 0);
        c.door(0, 6, 10, 0, "0");
        c.due("LEAF 1 is not whole", x.why(0, 0, 1, 0, 0), 3);
        c.due("LEAF 2 is whole", x.why(0, 0, 2, 0, 0), 0);
        x.log(1, 3, 60, 10, 0);
        x.flaw(1, 1, 0, 10, 10, 100);
        x.drift(1, 2, 0, -20);
        c.door(0, 10, 60, 0, "0");
        c.due("the LEAF ahead of it", x.why(0, 1, 0, 0, 0), 0);
        c.due("its own LEAF", x.why(0, 1, 1, 0, 0), 3);
        c.due("the LEAF behind it", x.why(0, 1, 2, 0, 0), 3);
    }

    private void overlap() {
        VeneerDesk x = document.says("Two boxes overlap, if they share more than a line.");
        x.log(0, 1, 20, 20, 0);
        x.flaw(0, 0, 8, 8, 4, 4);
        c.door(0, 4, 4, 0, "0");
        c.door(1, 20, 4, 0, "0");
        c.due("a CUT from y 0 to 4", x.make(1, 0), 1);
        // x, y, the FLAW that a box there overlaps, and why a CUT does not fit there.
        int[][] boxes = {{4, 8, -1, 0}, {5, 8, 0, 3}, {12, 8, -1, 0}, {11, 8, 0, 3}, {8, 4, -1, 0}, {8, 5, 0, 3},
            {8, 12, -1, 0}, {8, 11, 0, 3}, {4, 4, -1, 0}, {12, 12, -1, 0}, {4, 12, -1, 0}, {12, 4, -1, 0},
            {5, 5, 0, 3}, {11, 11, 0, 3}, {5, 11, 0, 3}, {11, 5, 0, 3}, {0, 4, -1, 0}, {0, 3, -1, 4}};
        for (int[] b : boxes) {
            c.due("a box at " + b[0] + ", " + b[1], x.hit(0, 0, b[0], b[1], 4, 4), b[2]);
            c.due("a CUT at " + b[0] + ", " + b[1], x.why(0, 0, 0, b[1], b[0]), b[3]);
        }
        x.log(0, 1, 20, 20, 0);
        x.flaw(0, 0, 20, 0, 4, 20);
        x.flaw(0, 0, 0, 20, 20, 4);
        c.due("FLAWS that share a line with the LEAF", x.leaf(0, 0, 2), 0);
        x.flaw(0, 0, 19, 19, 4, 4);
        c.due("one that shares more", x.leaf(0, 0, 2), 1);
    }

    private void blanks() {
        document.says("II. A DRAWING's TEXT, with blanks (10, 32) anywhere:");
        String text = "(0|!1)/~2x3";
        c.duePieces(text, 2, 0, 17, 51, 51);
        for (int k = 0; k <= text.length(); k++) {
            c.anew();
            c.duePieces(text.substring(0, k) + " " + text.substring(k), 2, 0, 17, 51, 51);
            c.duePieces(text.substring(0, k) + "\n" + text.substring(k), 2, 0, 17, 51, 51);
            c.duePieces(text.substring(0, k) + " \n \n" + text.substring(k), 2, 0, 17, 51, 51);
        }
        for (int sign = 0; sign < 256; sign++) {
            VeneerDesk x = c.anew();
            boolean blank = sign == 10 || sign == 32;
            int place = blank ? -1 : sign == '|' || sign == '/' ? 2 : 1;
            c.due("byte " + sign + " behind a digit", c.door(0, 1, 1, 0, "0" + (char) sign), blank ? 1 : -1);
            c.due("byte " + sign + " behind a digit, its place", x.fault(1), place);
            boolean opens = "(!~".indexOf(sign) >= 0;
            c.due("byte " + sign + " ahead of a digit", c.door(0, 1, 1, 0, (char) sign + "0"), blank || sign == '!' || sign == '~' ? 1 : -1);
            boolean digit = '0' <= sign && sign <= '9';
            place = sign == '(' ? 2 : blank || opens ? -1 : digit ? 1 : 0;
            c.due("byte " + sign + " ahead of a digit, its place", x.fault(1), place);
        }
    }

    private void rowsAndColumns() {
        document.says("ROW: COLUMN, or more with | between, side by side from the left on, all as high;");
        c.duePieces("0", 1, 0);
        c.duePieces("4|3|5", 3, 4, 3, 5);
        c.duePieces("0/1|2/3|4/5", 3, 0, 2, 4, 1, 3, 5);
        c.dueFault("0/1|2", 2, 3);
        c.dueFault("0|1/2", 2, 1);
        c.dueFault("0/1|2/3|4", 2, 7);
        document.says("COLUMN: PART, or more with / between, from above on, all as wide;");
        c.duePieces("4/3/5", 1, 4, 3, 5);
        c.duePieces("(0|1)/(2|3)/(4|5)", 2, 0, 1, 2, 3, 4, 5);
        c.dueFault("(0|1)/2", 2, 5);
        c.dueFault("0/(1|2)", 2, 1);
        c.dueFault("2x0/2x1/2", 2, 7);
    }

    private void parts() {
        VeneerDesk x = document.says("PART: a digit (a PIECE, 1 wide and high: a LEAF so many behind the DOOR's first one);");
        x.log(0, 12, 10, 10, 0);
        for (int digit = 0; digit < 10; digit++) {
            c.duePieces(String.valueOf(digit), 1, digit);
            c.due("made", x.make(0, 0), 1);
            c.due("its first LEAF", x.of(0, 7), 0);
            c.due("its CUT is of LEAF " + digit, x.leaf(0, digit, 3), 1);
            x.free(0);
        }
        document.says("( ROW );");
        c.duePieces("(0)", 1, 0);
        c.duePieces("(0|1)", 2, 0, 1);
        c.duePieces("(0/1|2/3)/(4|5)", 2, 0, 2, 1, 3, 4, 5);
        c.duePieces("((0|1)/(2|3)|4/5)", 3, 0, 1, 4, 2, 3, 5);
        document.says("2 to 9 x PART, so often side by side;");
        c.dueFault("0x1", 1, 1);
        c.dueFault("1x1", 1, 1);
        for (int times = 2; times <= 8; times++) {
            int[] pieces = new int[times];
            Arrays.fill(pieces, 1);
            c.duePieces(times + "x1", times, pieces);
        }
        c.dueFault("9x1", 3, 1);
        c.duePieces("3x(0/1)", 3, 0, 0, 0, 1, 1, 1);
        c.duePieces("2x(0|1|2)", 6, 0, 1, 2, 0, 1, 2);
        c.duePieces("2x0|1", 3, 0, 0, 1);
        c.duePieces("2x3x4", 6, 4, 4, 4, 4, 4, 4);
        c.duePieces("2x!4", 2, 4 + OVER, 4 + OVER);
    }

    private void glassAndTurned() {
        document.says("! PART, as in a glass (left and right change);");
        c.duePieces("!(0|1|2)", 3, 2 + OVER, 1 + OVER, OVER);
        c.duePieces("!((0|1)/(2|3))", 2, 1 + OVER, OVER, 3 + OVER, 2 + OVER);
        c.duePieces("!0|1", 2, OVER, 1);
        c.duePieces("!0/1", 1, OVER, 1);
        c.duePieces("!3x(0|1)", 6, 17, 16, 17, 16, 17, 16);
        c.duePieces("!(0|!1|~2)", 3, 2 + UPSIDE, 1, OVER);
        document.says("~ PART, turned (left and right, and above and below change).");
        c.duePieces("~(0|1|2)", 3, 50, 49, 48);
        c.duePieces("~(0/1/2)", 1, 50, 49, 48);
        c.duePieces("~((0|1)/(2|3)/(4|5))", 2, 53, 52, 51, 50, 49, 48);
        c.duePieces("~0/1", 1, 48, 1);
        c.duePieces("~0|1", 2, 48, 1);
        c.duePieces("~((0|!1)/(~2|!~3))", 2, 3 + OVER, 2, 1 + UPSIDE, OVER + UPSIDE);
    }

    private void openParts() {
        document.says("At most 6 parts ( ! ~ x are open within one another,");
        c.duePieces("((((((3))))))", 1, 3);
        c.duePieces("!!!!!!3", 1, 3);
        c.duePieces("~~~~~~3", 1, 3);
        c.duePieces("(!~2x!(3))", 2, 3 + UPSIDE + OVER, 3 + UPSIDE + OVER);
        c.duePieces("2x2x2x(~!3)", 8, 35, 35, 35, 35, 35, 35, 35, 35);
        c.duePieces("((((((0))))))|!!!!!!1|~~~~~~2", 3, 0, 1, 2);
        c.duePieces("((((((0|1))))))/((((((2|3))))))", 2, 0, 1, 2, 3);
        for (String six : new String[] {"((((((", "!!!!!!", "~~~~~~", "(!~2x!(", "2x2x2x~!(", "!(!(!2x"}) {
            for (String seventh : new String[] {"(3)", "!3", "~3", "2x3"}) {
                c.anew();
                c.dueFault(six + seventh, 1, six.length());
            }
        }
    }

    private void sizes() {
        document.says("and it is at most 8 wide and 8 high.");
        for (int wide = 1; wide <= 9; wide++) {
            for (int high = 1; high <= 9; high++) {
                VeneerDesk x = c.anew();
                String column = "(" + "/0".repeat(high).substring(1) + ")";
                String text = ("|" + column).repeat(wide).substring(1);
                boolean can = wide <= 8 && high <= 8;
                c.due(wide + " wide, " + high + " high", c.door(0, 1, 1, 0, text), can ? wide * high : -1);
                c.due(wide + " wide, " + high + " high, its FAULT", x.fault(0), can ? 0 : 3);
            }
        }
    }

    private void firstFault() {
        document.says("FAULTS, the first that is met:");
        c.dueFault("0a|0/0", 1, 1);
        c.dueFault("0|0/0|a", 2, 1);
        c.dueFault("9x0|0/0", 3, 1);
        c.dueFault("0/2x0|9x0", 2, 1);
        c.dueFault("0/a|9x0", 1, 2);
        c.dueFault("9x0/2x0", 3, 1);
        c.dueFault("(0|0/0", 2, 2);
        c.dueFault("(9x0", 3, 2);
        c.dueFault("!!!!!!(0|0/0)", 1, 6);
    }

    private void faultOne() {
        document.says("1 what can't be there");
        String[] right = {"0", "(0)", "2x0", "!0", "~0", "0|0", "0/0"};
        for (String text : right) {
            for (int k = 0; k <= text.length(); k++) {
                c.anew();
                c.dueFault(text.substring(0, k) + "a" + text.substring(k), 1, k);
            }
        }
        c.anew();
        c.dueFault("00", 1, 1);
        c.dueFault("0(0)", 1, 1);
        c.dueFault("0!0", 1, 1);
        c.dueFault("0~0", 1, 1);
        c.dueFault("(0)0", 1, 3);
        c.dueFault("0)", 1, 1);
        c.dueFault("(0))", 1, 3);
        c.dueFault("()", 1, 1);
        c.dueFault("0||0", 1, 2);
        c.dueFault("0|/0", 1, 2);
        c.dueFault("|0", 1, 0);
        c.dueFault("/0", 1, 0);
        c.dueFault("x0", 1, 0);
        c.dueFault("(0)x0", 1, 3);
        c.dueFault("!x0", 1, 1);
        c.dueFault("2xx0", 1, 2);
        document.says("(at the text's length, if it ends too soon;");
        for (String text : new String[] {"", "(", "(0", "(0|", "(0/", "0|", "0/", "!", "~", "2x", "((0)", "2x(0", "!(0/1"}) {
            c.anew();
            c.dueFault(text, 1, text.length());
            c.dueFault(text + " ", 1, text.length() + 1);
            c.dueFault(text + "\n \n", 1, text.length() + 3);
        }
        document.says("a 7th open part at its first byte);");
        c.dueFault("(((((((0)))))))", 1, 6);
        c.dueFault("!!!!!! ! 0", 1, 7);
        c.dueFault("~~~~~~ \n~0", 1, 8);
        c.dueFault("((((((2x0))))))", 1, 6);
        c.dueFault("((((((  2 x 0))))))", 1, 8);
        c.dueFault("((((((0|2x0))))))", 1, 8);
        c.dueFault("((((((0/(1)))))))", 1, 8);
        c.dueFault("((((((2x", 1, 6);
        c.dueFault("((((((1x0))))))", 1, 7);
    }

    private void atTheSign() {
        document.says("when what is behind a sign | / x is read, at that sign:");
        c.dueFault(" 0 | 1/2 ", 2, 3);
        c.dueFault("(0|1) /\n2", 2, 6);
        c.dueFault("9 x 0", 3, 2);
        c.dueFault(" 8x0 | 0", 3, 5);
        c.dueFault("0/0/0/0/0/0/0/0 / 0", 3, 16);
        // What is behind is read first, and has its own FAULTS.
        c.dueFault("0|1/a", 1, 4);
        c.dueFault("8x0|(0", 1, 6);
        c.dueFault("(0|1)/(2", 1, 8);
        c.dueFault("9x(a)", 1, 3);
        c.dueFault("9x", 1, 2);
        c.dueFault("0|(1/2x3)", 2, 4);
        c.dueFault("0|1/(2|3/4)", 2, 6);
        c.dueFault("9x9x0", 3, 3);
        // A PART is read at its own end.
        c.dueFault("9x0a", 3, 1);
        c.dueFault("0/2x0a", 2, 1);
    }

    private void faultTwo() {
        document.says("2 what comes is not as high (|) or wide (/) as what is ahead of it;");
        for (int ahead = 1; ahead <= 4; ahead++) {
            for (int comes = 1; comes <= 4; comes++) {
                c.anew();
                String high = "/0".repeat(ahead).substring(1);
                dueTwo(high, "|", "/0".repeat(comes).substring(1), ahead == comes);
                dueTwo(high + "|" + high, "|", "/0".repeat(comes).substring(1), ahead == comes);
                String wide = "(" + "|0".repeat(ahead).substring(1) + ")";
                dueTwo(wide, "/", "(" + "|0".repeat(comes).substring(1) + ")", ahead == comes);
                dueTwo(wide + "/" + wide, "/", "(" + "|0".repeat(comes).substring(1) + ")", ahead == comes);
            }
        }
    }

    private void dueTwo(String ahead, String sign, String comes, boolean alike) {
        String text = ahead + sign + comes;
        if (alike) {
            c.due(text, c.door(0, 1, 1, 0, text) > 0, true);
        } else {
            c.dueFault(text, 2, ahead.length());
        }
    }

    private void faultThree() {
        document.says("3 it becomes too wide or high");
        for (int ahead = 1; ahead <= 8; ahead++) {
            for (int comes = 1; comes <= 8; comes++) {
                c.anew();
                String wide = "(" + "|0".repeat(ahead).substring(1) + ")";
                String high = "(" + "/0".repeat(ahead).substring(1) + ")";
                String wider = "(" + "|0".repeat(comes).substring(1) + ")";
                String higher = "(" + "/0".repeat(comes).substring(1) + ")";
                for (String sign : new String[] {"", "!", "~"}) {
                    dueThree(wide + "|" + sign + wider, wide.length(), ahead + comes);
                    dueThree(high + "/" + sign + higher, high.length(), ahead + comes);
                }
                if (ahead > 1) {
                    dueThree(ahead + "x" + wider, 1, ahead * comes);
                }
            }
        }
        c.anew();
        c.dueFault("2x(0/1/2/3/4/5/6/7)|~7x(0/1/2/3/4/5/6/7)", 3, 19);
        c.dueFault("8x(0/1)/~(8x(0/1/2/3/4/5/6/7))", 3, 7);
        document.says("(2 ahead of 3).");
        c.dueFault("8x0|1/2", 2, 3);
        c.dueFault("8x(0/1)|2", 2, 7);
        c.dueFault("(0/1/2/3/4/5/6/7)/2x0", 2, 17);
        c.dueFault("0/1/2/3/4/5/6/(0|1)/7", 2, 13);
    }

    private void dueThree(String text, int sign, int size) {
        if (size <= 8) {
            c.due(text, c.door(0, 1, 1, 0, text), size);
        } else {
            c.dueFault(text, 3, sign);
        }
    }

    private void columnIsRead() {
        document.says("(A COLUMN is read as soon as no / stands behind it, whatever else stands there.)");
        for (int sign = 0; sign < 256; sign++) {
            c.anew();
            String text = "0|0/0" + (char) sign;
            c.dueFault(text, sign == '/' ? 1 : 2, sign == '/' ? 6 : 1);
            c.dueFault("8x0|0" + (char) sign, sign == '/' ? 1 : 3, sign == '/' ? 6 : 3);
        }
        c.dueFault("0|0/0 /0a", 2, 1);
        c.dueFault("0|0/0 / a", 1, 8);
    }

    private void pieces() {
        document.says("A PIECE has an offset (its digit) and is turned OVER (left and right changed an odd number of times)"
            + " or not, UPSIDE (above and below) or not.");
        for (int many = 0; many <= 6; many++) {
            for (int kinds = 0; kinds < 1 << many; kinds++) {
                c.anew();
                StringBuilder signs = new StringBuilder();
                for (int k = 0; k < many; k++) {
                    signs.append((kinds >> k & 1) == 1 ? '~' : '!');
                }
                int upside = Integer.bitCount(kinds) % 2 * UPSIDE;
                int digit = (many + kinds) % 10;
                c.duePieces(signs.toString() + digit, 1, digit + many % 2 * OVER + upside);
            }
        }
    }

    private void jointsBeside() {
        Pair book = (step, over, secondOver, asUpside) -> Math.abs(step) == 1 && asUpside && over != secondOver;
        Pair slip = (step, over, secondOver, asUpside) -> step == 1 && asUpside && !over && !secondOver;
        Pair slipOver = (step, over, secondOver, asUpside) -> step == -1 && asUpside && over && secondOver;
        document.says("JOINTS: between two PIECES side by side: BOOK, if their offsets are 1 apart, both are as UPSIDE,"
            + " and just one is turned OVER;");
        dueJoints(false, book, BOOK);
        document.says("SLIP, if the right one's offset is 1 more, both are as UPSIDE and none is turned OVER,");
        dueJoints(false, slip, SLIP);
        // "Both are as UPSIDE" is read for this one too.
        document.says("or 1 less, and both are turned OVER;");
        dueJoints(false, slipOver, SLIP);
        document.says("else NONE.");
        dueJoints(false, (step, over, secondOver, asUpside) -> !book.is(step, over, secondOver, asUpside)
            && !slip.is(step, over, secondOver, asUpside) && !slipOver.is(step, over, secondOver, asUpside), NO_MATCH);
    }

    private void jointsBelow() {
        Pair book = (step, over, secondOver, asUpside) -> Math.abs(step) == 1 && over == secondOver && !asUpside;
        document.says("Between one above another: BOOK, if their offsets are 1 apart, both are as turned OVER, and just one is UPSIDE;");
        dueJoints(true, book, BOOK);
        document.says("else NONE (no SLIP).");
        dueJoints(true, (step, over, secondOver, asUpside) -> !book.is(step, over, secondOver, asUpside), NO_MATCH);
        document.says("(One that is neither, or alike offsets: NONE.)");
        Pair alike = (step, over, secondOver, asUpside) -> step == 0;
        dueJoints(false, alike, NO_MATCH);
        dueJoints(true, alike, NO_MATCH);
    }

    /** All pairs of offsets and of how PIECES are turned. */
    private void dueJoints(boolean down, Pair pair, int want) {
        for (int one = 0; one < 40; one++) {
            VeneerDesk x = c.anew();
            for (int two = 0; two < 40; two++) {
                int kind = one / 10;
                int second = two / 10;
                if (pair.is(two % 10 - one % 10, kind % 2 == 1, second % 2 == 1, kind / 2 == second / 2)) {
                    String text = SIGNS[kind] + one % 10 + (down ? "/" : "|") + SIGNS[second] + two % 10;
                    c.door(0, 1, 1, 0, text);
                    c.due(text, x.joint(0, 0, 0, down), want);
                }
            }
        }
    }

    private void doors() {
        VeneerDesk x = document.says("III. DOORS 0 .. 7:");
        for (int d = -1; d <= 8; d++) {
            boolean can = 0 <= d && d <= 7;
            c.due("DOOR " + d, c.door(d, 1, 1, 0, "3|" + Math.max(0, d)), can ? 2 : -2);
            x.end(0);
        }
        for (int d = -1; d <= 8; d++) {
            c.due("PIECE of DOOR " + d, x.piece(d, 1, 0), 0 <= d && d <= 7 ? d : -1);
        }
        x = document.says("a DRAWING, with PIECES so wide and high (1 .. 60 each), and most TONES apart (0 .. 200).");
        x.log(0, 12, 60, 40, 2);
        for (int size = 1; size <= 60; size++) {
            c.due(size + " wide and high", c.door(0, size, size, 0, "0"), 1);
            // LEAF 11 is 62 wide.
            c.due("its last x and y", x.why(0, 0, 11, 60 - size, 62 - size), 0);
            c.due("its x behind", x.why(0, 0, 11, 60 - size, 63 - size), 2);
            c.due("its y behind", x.why(0, 0, 11, 61 - size, 62 - size), 2);
        }
        x = c.anew();
        for (int size : new int[] {0, 61}) {
            c.due(size + " wide", x.door(0, size, 1, 0), -2);
            c.due(size + " high", x.door(0, 1, size, 0), -2);
        }
        for (int tones = -1; tones <= 201; tones++) {
            c.due("TONES " + tones, x.door(0, 1, 1, tones), 0 <= tones && tones <= 200 ? -1 : -2);
        }
    }

    private void cuts() {
        VeneerDesk x = document.says("At a LOG, a LEAF f, a height y, a PLACE x: for each PIECE of offset d a CUT of LEAF f and d:");
        x.log(2, 8, 12, 10, 0);
        x.flaw(2, 0, 0, 0, 10, 12);
        c.door(0, 2, 2, 0, "(0|3|3)/(5|3|0)");
        c.due("make", x.make(0, 2), 6);
        c.due("its LEAF", x.of(0, 7), 1);
        int[] cuts = {0, 2, 0, 0, 3, 0, 1, 0};
        for (int i = 0; i < 8; i++) {
            c.due("CUTS of LEAF " + i, x.leaf(2, i, 3), cuts[i]);
        }
        x = document.says("the PIECES of one offset, as they come row by row in the DRAWING, one above the other: the first"
            + " from y on, the next from there on (each as high as told), all from x to x and wide.");
        x.log(0, 2, 12, 10, 0);
        x.flaw(0, 0, 0, 0, 10, 1);
        x.flaw(0, 0, 0, 0, 2, 12);
        c.door(0, 3, 2, 0, "(0|1)/(0|0)");
        c.due("make", x.make(0, 0), 4);
        c.door(7, 1, 1, 0, "0");
        for (int k = 0; k < 120; k++) {
            int left = k % 10;
            int top = k / 10;
            boolean flaw = left < 2 || top < 1;
            boolean inX = 2 <= left && left < 5;
            c.due("LEAF 0 at " + left + ", " + top, x.why(7, 0, 0, top, left), flaw ? 3 : inX && top < 7 ? 4 : 0);
            c.due("LEAF 1 at " + left + ", " + top, x.why(7, 0, 1, top, left), inX && 1 <= top && top < 3 ? 4 : 0);
        }
        x.log(1, 2, 12, 10, 0);
        c.door(1, 10, 3, 0, "1");
        c.due("a CUT of LEAF 1", x.make(1, 1), 1);
        x.flaw(1, 0, 0, 3, 1, 1);
        c.door(2, 3, 3, 0, "(0|1)/(0|1)");
        c.due("LEAF 1's first comes ahead of LEAF 0's second", x.why(2, 1, 0, 0, 0), 4);
        c.door(2, 3, 3, 0, "0/0|1/1");
        c.due("row by row", x.why(2, 1, 0, 0, 0), 4);
        c.door(2, 3, 3, 0, "0/0/1/1");
        c.due("LEAF 0's second comes ahead", x.why(2, 1, 0, 0, 0), 3);
    }

    private void leavesAndSides() {
        VeneerDesk x = document.says("It FITS, if all LEAVES are there,");
        x.log(0, 5, 20, 20, 0);
        c.door(0, 2, 2, 0, "1|3");
        for (int f = -3; f <= 6; f++) {
            c.due("LEAVES " + (f + 1) + " and " + (f + 3), x.why(0, 0, f, 0, 0), -1 <= f && f <= 1 ? 0 : 1);
        }
        x = document.says("all CUTS lie within them,");
        // WIDTHS 20, 18, 16; the CUTS of offset 2 are 3 high each.
        x.log(0, 3, 20, 20, -2);
        c.door(0, 5, 3, 0, "0/0|2/2");
        for (int at = -1; at <= 20; at++) {
            c.due("x " + at, x.why(0, 0, 0, 0, at), 0 <= at && at <= 11 ? 0 : 2);
            c.due("y " + at, x.why(0, 0, 0, at, 0), 0 <= at && at <= 14 ? 0 : 2);
        }
        c.door(0, 5, 3, 0, "2");
        for (int at = -1; at <= 20; at++) {
            c.due("one CUT, x " + at, x.why(0, 0, 0, 0, at), 0 <= at && at <= 11 ? 0 : 2);
            c.due("one CUT, y " + at, x.why(0, 0, 0, at, 0), 0 <= at && at <= 17 ? 0 : 2);
        }
    }

    private void flawsAndCuts() {
        document.says("none overlaps a FLAW,");
        // CUTS of LEAF 0 from y 2 to 8, of LEAF 2 from y 2 to 5; none of LEAF 1.
        for (int i = 0; i < 3; i++) {
            for (int at = 0; at < 12; at++) {
                VeneerDesk x = c.anew();
                x.log(0, 3, 12, 10, 0);
                x.flaw(0, i, 4, at, 1, 1);
                c.door(0, 3, 3, 0, "0/0/2");
                boolean high = 2 <= at && at < (i == 0 ? 8 : 5) && i != 1;
                c.due("a FLAW of LEAF " + i + " at y " + at + ", right", x.why(0, 0, 0, 2, 1), 0);
                c.due("a FLAW of LEAF " + i + " at y " + at, x.why(0, 0, 0, 2, 2), high ? 3 : 0);
                c.due("a FLAW of LEAF " + i + " at y " + at, x.why(0, 0, 0, 2, 4), high ? 3 : 0);
                c.due("a FLAW of LEAF " + i + " at y " + at + ", left", x.why(0, 0, 0, 2, 5), 0);
            }
        }
        VeneerDesk y = c.anew();
        y.log(0, 1, 10, 10, 0);
        c.door(0, 4, 10, 0, "0");
        c.due("make", y.make(0, 0), 1);
        c.due("a FLAW in its CUT", y.flaw(0, 0, 0, 0, 4, 10), 0);
        c.duePlace("beside both", 0, 0, 0, 0, 4);
        document.says("or a CUT that was made,");
        for (int i = 0; i < 3; i++) {
            for (int at = 0; at < 12; at++) {
                VeneerDesk x = c.anew();
                x.log(0, 3, 12, 10, 0);
                c.door(0, 3, 3, 0, "0/0/2");
                oneCutAt(x, i, at);
                boolean high = 2 <= at && at < (i == 0 ? 8 : 5) && i != 1;
                c.due("a CUT of LEAF " + i + " at y " + at + ", left", x.why(0, 0, 0, 2, 1), 0);
                c.due("a CUT of LEAF " + i + " at y " + at, x.why(0, 0, 0, 2, 0), high ? 4 : 0);
            }
        }
    }

    /** A CUT of 1 by 1 in a LEAF at x 0, below one as wide as the LEAF that is taken back. */
    private void oneCutAt(VeneerDesk x, int i, int at) {
        if (at > 0) {
            c.door(1, 10, at, 0, String.valueOf(i));
            c.due("the CUT above", x.make(1, 0), 1);
        }
        c.door(2, 1, 1, 0, String.valueOf(i));
        c.due("the CUT", x.make(2, 0), 1);
        c.due("its height", x.of(2, 8), at);
        c.due("the CUT above is taken back", x.free(1), at > 0);
    }

    private void tonesApart() {
        document.says("and no two TONES of its LEAVES are farther apart than told.");
        for (int darkens = -5; darkens <= 5; darkens++) {
            for (int one = 0; one < 10; one += 3) {
                VeneerDesk x = c.anew();
                x.log(0, 12, 20, 20, 0);
                x.tone(0, 50, darkens);
                for (int two = 0; two < 10; two++) {
                    int apart = Math.abs(darkens * (one - two));
                    c.door(0, 1, 1, apart, one + "|" + two + "|" + one);
                    c.due(one + " and " + two + ", darkens " + darkens + ", as told", x.why(0, 0, 1, 0, 0), 0);
                    if (apart > 0) {
                        c.door(0, 1, 1, apart - 1, one + "|" + two + "|" + one);
                        c.due(one + " and " + two + ", darkens " + darkens + ", 1 less told", x.why(0, 0, 1, 0, 0), 5);
                        c.due("nor is there a PLACE", x.place(0, 0, 0), -1);
                    }
                }
            }
        }
        VeneerDesk x = c.anew();
        x.log(0, 12, 20, 20, 0);
        x.tone(0, 0, 5);
        c.door(0, 1, 1, 9, "2|3|4");
        c.due("two that are not side by side", x.why(0, 0, 0, 0, 0), 5);
        c.door(0, 1, 1, 10, "2|3|4");
        c.due("LEAF f is none of its LEAVES", x.why(0, 0, 0, 0, 0), 0);
    }

    private void place() {
        document.says("PLACE of a DOOR in a LOG: the first (f, then y, then x) of all at which it FITS.");
        String[] texts = {"0", "0|1", "1", "0/0", "2|0", "(0|1)/(1|0)"};
        for (String text : texts) {
            for (int high = 2; high <= 5; high++) {
                for (int grows = -1; grows <= 1; grows++) {
                    dueFirst(grows, text, 3, high);
                    dueFirst(grows, text, 6, high);
                    dueFirst(grows, text, 11, high);
                    dueFirst(grows, text, 12, high);
                    dueFirst(grows, text, 13, high);
                }
            }
        }
        VeneerDesk x = c.anew();
        x.log(0, 12, 10, 30, 2);
        c.door(0, 52, 10, 0, "0");
        c.duePlace("in the last LEAF alone", 0, 0, 11, 0, 0);
        c.due("make", x.make(0, 0), 1);
        c.due("its CUT", x.leaf(0, 11, 3), 1);
        c.duePlace("no more", 0, 0, -1, -1, -1);
    }

    private void dueFirst(int grows, String text, int wide, int high) {
        VeneerDesk x = c.anew();
        x.log(0, 3, 10, 12, grows);
        x.flaw(0, 0, 4, 2, 1, 1);
        x.drift(0, 2, -2, 1);
        x.flaw(0, 0, 8, 0, 1, 3);
        x.drift(0, 2, 0, 3);
        c.door(7, 12, 3, 0, "0");
        x.make(7, 0);
        c.door(0, wide, high, 0, text);
        int[] first = {-1, -1, -1};
        for (int k = 0; k < 3 * 10 * 14 && first[0] < 0; k++) {
            int[] at = {k / 140, k / 14 % 10, k % 14};
            first = x.why(0, 0, at[0], at[1], at[2]) == 0 ? at : first;
        }
        c.duePlace(text + ", " + wide + " wide, " + high + " high, grows " + grows, 0, 0, first[0], first[1], first[2]);
    }

    private void duePlanned(String name, int... logs) {
        for (int d = 0; d < 8; d++) {
            c.due(name + ", DOOR " + d, c.desk.planned(d), d < logs.length ? logs[d] : -1);
        }
    }

    private void planOfWhich() {
        VeneerDesk x = document.says("PLAN of all DOORS that are there and not made:");
        x.log(1, 12, 20, 20, 0);
        for (int d : new int[] {1, 2, 4, 6}) {
            c.door(d, 5, 5, 0, "0");
        }
        c.due("make(2, 1)", x.make(2, 1), 1);
        c.due("plan", x.plan(), 1);
        duePlanned("1, 4 and 6", -1, 1, -1, -1, 1, -1, 1);
    }

    private void planFewest() {
        VeneerDesk x = document.says("a LOG for each, with the fewest LOGS that have some of them;");
        x.log(0, 2, 10, 10, 0);
        x.log(1, 2, 10, 10, 0);
        x.log(2, 1, 20, 20, 0);
        c.door(0, 10, 10, 0, "0");
        c.door(1, 10, 10, 0, "0");
        c.door(2, 10, 10, 0, "0");
        c.due("all in LOG 2", x.plan(), 1);
        duePlanned("all in LOG 2", 2, 2, 2);
        x.flaw(2, 0, 0, 0, 20, 10);
        c.due("two LOGS", x.plan(), 2);
        duePlanned("two LOGS", 0, 0, 1);
        x.flaw(2, 0, 0, 0, 20, 20);
        x.flaw(0, 1, 0, 0, 1, 1);
        x.flaw(1, 0, 0, 0, 1, 1);
        c.door(2, 20, 20, 0, "0");
        c.due("none for DOOR 2", x.plan(), -2);
        x.log(2, 1, 20, 20, 0);
        c.due("three LOGS", x.plan(), 3);
        duePlanned("three LOGS", 0, 1, 2);
        x = document.says("of several the one with the least LOG at the first DOOR in which two of them differ;");
        for (int l = 0; l < 3; l++) {
            x.log(l, 1, 10, 10, 0);
        }
        c.door(3, 10, 10, 0, "0");
        c.door(5, 10, 10, 0, "0");
        c.due("one in each", x.plan(), 2);
        duePlanned("LOGS 0 and 1", -1, -1, -1, 0, -1, 1);
        x.flaw(0, 0, 0, 0, 1, 1);
        c.due("not in LOG 0", x.plan(), 2);
        duePlanned("LOGS 1 and 2", -1, -1, -1, 1, -1, 2);
        x.log(0, 1, 10, 11, 0);
        c.door(5, 11, 10, 0, "0");
        c.due("DOOR 5 in LOG 0 alone", x.plan(), 2);
        duePlanned("LOGS 1 and 0", -1, -1, -1, 1, -1, 0);
    }

    private void planOrder() {
        VeneerDesk x = document.says("the DOORS being placed in order, each at its PLACE then (with the CUTS of those ahead of it).");
        // LEAF 0 alone is 10 wide, and the first PLACE of a small DOOR is there.
        x.log(0, 2, 10, 10, -2);
        c.door(0, 1, 1, 0, "0");
        c.door(1, 10, 10, 0, "0");
        c.due("the small one first", x.plan(), -2);
        c.door(0, 10, 10, 0, "0");
        c.door(1, 1, 1, 0, "0");
        c.due("the small one last", x.plan(), 1);
        c.door(1, 8, 10, 0, "0");
        c.due("the second just has room", x.plan(), 1);
        c.door(1, 9, 10, 0, "0");
        c.due("the second has none, with the CUT of the first", x.plan(), -2);
        c.due("PLAN makes no CUTS", x.leaf(0, 0, 3), 0);
        x = document.says("At most 3 DOORS.");
        x.log(0, 12, 60, 40, 0);
        for (int d = 7; d >= 0; d--) {
            c.door(d, 1, 1, 0, "0");
            c.due(8 - d + " DOORS", x.plan(), d >= 5 ? 1 : -1);
        }
    }

    private void constants() {
        document.says("The constants: `NONE = -1`: There is none; it is refused.");
        c.due("NONE", VeneerDesk.NONE, -1);
        document.says("Ahead of the calls `door`, `fault`, `of`, `piece`, `joint`, `same` the interface says: ---- drawings.");
        document.says("Ahead of the calls `why`, `place`, `make`, `plan`, `planned`, `free` the interface says: ---- places.");
    }
}
