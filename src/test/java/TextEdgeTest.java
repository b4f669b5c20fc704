/** The edges of a DRAWING's TEXT (term II): what can stand where, how deep, wide and high it may be. */
public final class TextEdgeTest {
    private static final int MISPLACED = 1;
    private static final int UNEQUAL = 2;
    private static final int TOO_BIG = 3;
    private static final String OPENING = "(!~";
    /** A text takes up to 40 calls. */
    private static final int TEXTS_OF_A_DESK = 12;

    private final Checks c = new Checks();
    private int texts;

    public static void main(String[] args) {
        TextEdgeTest t = new TextEdgeTest();
        t.everyByteAlone();
        t.everyByteBehindAPiece();
        t.everyByteBehindTwo();
        t.everyByteWhereAPartIsDue();
        t.everyByteWithinABracket();
        t.everyByteBehindAColumn();
        t.endsTooSoon();
        t.blanksAnywhere();
        t.wholeTape();
        t.sixOpen();
        t.sevenOpen();
        t.openBesideOneAnother();
        t.timesOfAllSizes();
        t.sizesSideBySide();
        t.sizesAboveOneAnother();
        t.allSizes();
        t.tooBigWithin();
        t.changedBeyondTheLastColumn();
        t.offsetsDoNotWrap();
        t.jointsAtTheEdges();
        t.c.finish();
    }

    private void newDeskAtTimes(String name) {
        if (texts % TEXTS_OF_A_DESK == 0) {
            c.part(name);
        }
        texts++;
    }

    private void dueCount(String text, int pieces) {
        newDeskAtTimes("texts");
        String call = "door of \"" + text + "\"";
        c.due(call, c.door(0, 1, 1, 0, text), pieces);
        c.due(call + ", fault(0)", c.desk.fault(0), 0);
        c.due(call + ", fault(1)", c.desk.fault(1), -1);
    }

    private void dueFault(String text, int kind, int place) {
        newDeskAtTimes("texts");
        c.dueFault(text, kind, place);
    }

    private static boolean isDigit(char sign) {
        return sign >= '0' && sign <= '9';
    }

    private static boolean isBlank(char sign) {
        return sign == 10 || sign == 32;
    }

    private static boolean isOpening(char sign) {
        return OPENING.indexOf(sign) >= 0;
    }

    private static String repeated(String part, String between, int times) {
        StringBuilder text = new StringBuilder(part);
        for (int k = 1; k < times; k++) {
            text.append(between).append(part);
        }
        return text.toString();
    }

    /** A part so many PIECES wide, 1 high. */
    private static String wide(int n) {
        return "(" + repeated("0", "|", n) + ")";
    }

    /** A part so many PIECES high, 1 wide. */
    private static String high(int n) {
        return "(" + repeated("0", "/", n) + ")";
    }

    private void everyByteAlone() {
        for (char sign = 0; sign < 256; sign++) {
            String text = String.valueOf(sign);
            if (isDigit(sign)) {
                dueCount(text, 1);
                c.due("its offset", c.desk.piece(0, 0, 0), sign - '0');
            } else {
                dueFault(text, MISPLACED, isBlank(sign) || isOpening(sign) ? 1 : 0);
            }
        }
    }

    private void everyByteBehindAPiece() {
        for (char sign = 0; sign < 256; sign++) {
            String text = "0" + sign;
            if (isBlank(sign)) {
                dueCount(text, 1);
            } else {
                dueFault(text, MISPLACED, sign == '|' || sign == '/' ? 2 : 1);
            }
        }
    }

    /** "2 to 9 x PART, so often side by side" */
    private void everyByteBehindTwo() {
        for (char sign = 0; sign < 256; sign++) {
            String text = "2" + sign + "0";
            if (sign == 'x' || sign == '|' || sign == '/') {
                dueCount(text, 2);
                c.due("PIECES wide", c.desk.of(0, 0), sign == '/' ? 1 : 2);
            } else {
                dueFault(text, MISPLACED, isBlank(sign) ? 2 : 1);
            }
        }
    }

    private void everyByteWhereAPartIsDue() {
        String[] ahead = {"!", "~", "(", "0|", "0/", "2x", "0|1|", "(0)/"};
        for (String start : ahead) {
            for (char sign = 0; sign < 256; sign++) {
                String text = start + sign;
                int length = text.length();
                if (!isDigit(sign)) {
                    dueFault(text, MISPLACED, isBlank(sign) || isOpening(sign) ? length : length - 1);
                } else if (start.equals("(")) {
                    dueFault(text, MISPLACED, length);
                } else {
                    dueCount(text, start.startsWith("0|1") ? 3 : start.length() == 1 ? 1 : 2);
                }
            }
        }
    }

    private void everyByteWithinABracket() {
        for (char sign = 0; sign < 256; sign++) {
            String text = "(0" + sign;
            if (sign == ')') {
                dueCount(text, 1);
            } else {
                boolean goesOn = isBlank(sign) || sign == '|' || sign == '/';
                dueFault(text, MISPLACED, goesOn ? 3 : 2);
            }
        }
    }

    /** "(A COLUMN is read as soon as no / stands behind it, whatever else stands there.)" */
    private void everyByteBehindAColumn() {
        for (char sign = 0; sign < 256; sign++) {
            if (sign != '/') {
                dueFault("0|0/0" + sign, UNEQUAL, 1);
                dueFault("(0/0|0" + sign, UNEQUAL, 4);
                dueFault("8x0|0" + sign, TOO_BIG, 3);
                dueFault("0/2x0" + sign, UNEQUAL, 1);
                dueFault("9x0" + sign, TOO_BIG, 1);
            }
        }
        dueFault("0|0/0/", MISPLACED, 6);
        dueFault("(0/0|0/", MISPLACED, 7);
        dueCount("(0/0|0/1)", 4);
        dueFault("8x0|0/", MISPLACED, 6);
        dueFault("8x0|0/0", UNEQUAL, 3);
        // A part is read at its end, whether a / stands behind it or not.
        dueFault("0/2x0/", UNEQUAL, 1);
        dueFault("9x0/", TOO_BIG, 1);
    }

    /** "at the text's length, if it ends too soon" */
    private void endsTooSoon() {
        String[] texts = {"", "(", "!", "~", "2x", "0|", "0/", "(0", "(0|", "(0/1|2/", "!(0|1", "~2x(", "9x9x", "((0)"};
        for (String text : texts) {
            dueFault(text, MISPLACED, text.length());
            dueFault(text + " ", MISPLACED, text.length() + 1);
            dueFault(text + "\n \n", MISPLACED, text.length() + 3);
            dueFault("\n " + text, MISPLACED, text.length() + 2);
        }
    }

    private void blanksAnywhere() {
        String tight = "2x!(0|1)/(~2|3|(4|5))";
        for (String blank : new String[] {" ", "\n", "  ", "\n \n"}) {
            StringBuilder spaced = new StringBuilder(blank);
            for (int k = 0; k < tight.length(); k++) {
                spaced.append(tight.charAt(k)).append(blank);
            }
            dueCount(spaced.toString(), 8);
            c.due("its upper left PIECE", c.desk.piece(0, 0, 0), 17);
            c.due("its lower left PIECE", c.desk.piece(0, 0, 1), 50);
            c.due("its lower right PIECE", c.desk.piece(0, 3, 1), 5);
        }
        // Places count the blanks.
        dueFault(" 0 | 0 / 0 ", UNEQUAL, 3);
        dueFault("\n9\nx\n0\n", TOO_BIG, 3);
        dueFault(" 0 \n 0", MISPLACED, 5);
        dueFault(" 1 x 0", MISPLACED, 3);
    }

    /** A tape of 400 bytes is read to its last one. */
    private void wholeTape() {
        String blanks = " ".repeat(398);
        dueCount("0" + blanks + " ", 1);
        dueCount(blanks + " 0", 1);
        dueFault("0" + blanks + "0", MISPLACED, 399);
        dueFault("0" + blanks + "|", MISPLACED, 400);
        dueFault(blanks + "  ", MISPLACED, 400);
        dueFault(blanks + " a", MISPLACED, 399);
        dueFault("0/" + blanks.substring(1) + "a", MISPLACED, 399);
    }

    /** Every row of six openings that a number from 0 to 728 tells. */
    private static String sixOpenings(int number) {
        StringBuilder text = new StringBuilder();
        for (int k = 0; k < 6; k++) {
            text.append(OPENING.charAt(number % 3));
            number /= 3;
        }
        return text.toString();
    }

    private static String closing(String openings) {
        return ")".repeat((int) openings.chars().filter(sign -> sign == '(').count());
    }

    /** "At most 6 parts ( ! ~ x are open within one another" */
    private void sixOpen() {
        for (int number = 0; number < 729; number++) {
            String openings = sixOpenings(number);
            dueCount(openings + "7" + closing(openings), 1);
            c.due("the PIECE's offset", c.desk.piece(0, 0, 0) & 15, 7);
        }
        for (int place = 0; place < 6; place++) {
            String text = "!".repeat(place) + "2x" + "~".repeat(5 - place);
            dueCount(text + "7", 2);
        }
        dueCount("2x(2x!2x~0)", 8);
    }

    /** "a 7th open part at its first byte" */
    private void sevenOpen() {
        for (int number = 0; number < 729; number++) {
            String openings = sixOpenings(number);
            for (String seventh : new String[] {"(", "!", "~", "2x", "9 x"}) {
                dueFault(openings + seventh + "0" + closing(openings), MISPLACED, 6);
            }
        }
        for (int place = 0; place < 6; place++) {
            String text = "!".repeat(place) + "2x" + "~".repeat(5 - place);
            dueFault(text + "!0", MISPLACED, 7);
            dueFault(text + "2x0", MISPLACED, 7);
            dueFault(text + "\n 3 x0", MISPLACED, 9);
        }
        // Neither 0 nor 1 opens a part: the x can't be there.
        dueFault("!!!!!!1x0", MISPLACED, 7);
        dueFault("!!!!!!0x0", MISPLACED, 7);
        // A 7th part is refused before it is read, what can't be there where it is met.
        dueFault("!!!!!!(a", MISPLACED, 6);
        dueFault("!!!!!!a", MISPLACED, 6);
        dueFault("!!!!!!", MISPLACED, 6);
        dueFault("9x!!!!!!0", MISPLACED, 7);
        dueFault("0|((((((0/1))))))", UNEQUAL, 1);
        dueFault("0|((((((0/!1))))))", MISPLACED, 10);
    }

    private void openBesideOneAnother() {
        dueCount("!!!!!!0|((((((0))))))|~~~~~~0", 3);
        dueCount("!!!!!!0/((((((0))))))/~~~~~~0", 3);
        dueCount("(((((!0|~0)))))", 2);
        dueCount("(((((!0/(1))))))", 2);
        dueFault("!!!!!!0|!!!!!!!0", MISPLACED, 14);
        dueFault("((((((0))))))/(((((((0", MISPLACED, 20);
    }

    /** "2 to 9 x PART", "at most 8 wide": every number with every width. */
    private void timesOfAllSizes() {
        for (int width = 1; width <= 8; width++) {
            dueFault("0x" + wide(width), MISPLACED, 1);
            dueFault("1x" + wide(width), MISPLACED, 1);
            for (int times = 2; times <= 9; times++) {
                String text = times + "x" + wide(width);
                if (times * width <= 8) {
                    dueCount(text, times * width);
                    c.due("PIECES wide", c.desk.of(0, 0), times * width);
                    c.due("PIECES high", c.desk.of(0, 1), 1);
                } else {
                    dueFault(text, TOO_BIG, 1);
                }
            }
        }
        for (int height = 1; height <= 8; height++) {
            dueCount("8x" + high(height), 8 * height);
            dueFault("9x" + high(height), TOO_BIG, 1);
        }
        dueFault("2x2x2x2x0", TOO_BIG, 1);
        dueFault("9x2x5x2x0", TOO_BIG, 5);
    }

    private void sizesSideBySide() {
        for (int left = 1; left <= 8; left++) {
            for (int right = 1; right <= 8; right++) {
                int sign = wide(left).length();
                String text = wide(left) + "|" + wide(right);
                if (left + right <= 8) {
                    dueCount(text, left + right);
                } else {
                    dueFault(text, TOO_BIG, sign);
                }
                sign = high(left).length();
                text = high(left) + "|" + high(right);
                if (left == right) {
                    dueCount(text, left + right);
                } else {
                    dueFault(text, UNEQUAL, sign);
                }
                // 2 ahead of 3: too wide as well, if they are not as high.
                text = "8x" + high(left) + "|" + high(right);
                dueFault(text, left == right ? TOO_BIG : UNEQUAL, sign + 2);
            }
        }
    }

    private void sizesAboveOneAnother() {
        for (int upper = 1; upper <= 8; upper++) {
            for (int lower = 1; lower <= 8; lower++) {
                int sign = high(upper).length();
                String text = high(upper) + "/" + high(lower);
                if (upper + lower <= 8) {
                    dueCount(text, upper + lower);
                } else {
                    dueFault(text, TOO_BIG, sign);
                }
                sign = wide(upper).length();
                text = wide(upper) + "/" + wide(lower);
                if (upper == lower) {
                    dueCount(text, upper + lower);
                } else {
                    dueFault(text, UNEQUAL, sign);
                }
            }
        }
        // 2 ahead of 3: too high as well, if it is not as wide.
        dueFault("2x(0/0/0/0/0/0/0/0)/0", UNEQUAL, 19);
        dueFault("2x(0/0/0/0/0/0/0/0)/2x0", TOO_BIG, 19);
        dueFault("0/0/0/0/0/0/0/0/(0|0)", UNEQUAL, 15);
    }

    /** "it is at most 8 wide and 8 high" */
    private void allSizes() {
        for (int width = 1; width <= 9; width++) {
            for (int height = 1; height <= 9; height++) {
                String column = repeated("3", "/", height);
                String text = repeated(column, "|", width);
                if (height == 9) {
                    dueFault(text, TOO_BIG, 15);
                } else if (width == 9) {
                    dueFault(text, TOO_BIG, text.length() - column.length() - 1);
                } else {
                    dueCount(text, width * height);
                    c.due("PIECES wide", c.desk.of(0, 0), width);
                    c.due("PIECES high", c.desk.of(0, 1), height);
                    c.due("the last PIECE", c.desk.piece(0, width - 1, height - 1), 3);
                    c.due("beside it", c.desk.piece(0, width, height - 1), -1);
                    c.due("below it", c.desk.piece(0, width - 1, height), -1);
                }
            }
        }
    }

    /** A part is too wide or high by itself, and not only where it stands in the whole. */
    private void tooBigWithin() {
        dueFault("(" + repeated("0", "|", 9) + ")", TOO_BIG, 16);
        dueFault("!(" + repeated("0", "/", 9) + ")", TOO_BIG, 17);
        dueFault("0|(" + repeated("0", "|", 8) + ")", TOO_BIG, 1);
        dueFault("0|0|(" + repeated("0", "|", 7) + ")", TOO_BIG, 3);
        dueCount("0|(" + repeated("0", "|", 7) + ")", 8);
        dueFault("0/(" + repeated("0", "/", 8) + ")", TOO_BIG, 1);
        dueCount("0/(" + repeated("0", "/", 7) + ")", 8);
        dueFault("0|8x!(0/0)", UNEQUAL, 1);
        dueFault("0|~8x(0|0)", TOO_BIG, 4);
        dueFault("0|~8x0", TOO_BIG, 1);
    }

    /** Parts that would stand in a 9th column or row are read, and changed, before the FAULT is met. */
    private void changedBeyondTheLastColumn() {
        for (String change : new String[] {"", "!", "~", "2x", "!~", "~2x!"}) {
            for (int size = 1; size <= 8; size++) {
                String beside = "8x" + high(size);
                dueFault(beside + "|" + change + high(size), TOO_BIG, beside.length());
                String above = wide(size) + "/" + repeated(size + "x0", "/", 7).replace("1x", "");
                boolean wider = change.contains("2x");
                if (!wider) {
                    dueFault(above + "/" + change + wide(size), TOO_BIG, above.length());
                } else if (size <= 4) {
                    dueFault(above + "/" + change + wide(size), UNEQUAL, above.length());
                }
            }
        }
    }

    /** BOOK and SLIP: "1 apart", "1 more", "1 less"; 9 and 0 are not. */
    private void offsetsDoNotWrap() {
        String[] changes = {"", "!", "~", "!~"};
        for (String one : changes) {
            for (String other : changes) {
                for (String pair : new String[] {"90", "09"}) {
                    String left = one + pair.charAt(0);
                    String right = other + pair.charAt(1);
                    dueCount(left + "|" + right, 2);
                    c.due("JOINT", c.desk.joint(0, 0, 0, false), 0);
                    dueCount(left + "/" + right, 2);
                    c.due("JOINT down", c.desk.joint(0, 0, 0, true), 0);
                    c.due("one that is NONE", c.desk.of(0, 5), 1);
                }
            }
        }
        dueCount("8|9", 2);
        c.due("JOINT of 8 and 9", c.desk.joint(0, 0, 0, false), 1);
        dueCount("9|!8", 2);
        c.due("JOINT of 9 and !8", c.desk.joint(0, 0, 0, false), 2);
        dueCount("9/!~8", 2);
        c.due("JOINT of 9 and !~8 below", c.desk.joint(0, 0, 0, true), 2);
    }

    /** joint: "-1 there is no such JOINT": the last column has none to its right, the last row none below. */
    private void jointsAtTheEdges() {
        dueCount("8x(0/1/2/3/4/5/6/7)", 64);
        for (int k = 0; k < 8; k++) {
            c.due("to the right, row " + k, c.desk.joint(0, 6, k, false), 0);
            c.due("to the right of the last, row " + k, c.desk.joint(0, 7, k, false), -1);
            c.due("below, column " + k, c.desk.joint(0, k, 6, true), 0);
            c.due("below the last, column " + k, c.desk.joint(0, k, 7, true), -1);
        }
        c.due("JOINTS that are NONE", c.desk.of(0, 5), 112);
        dueCount("0", 1);
        for (int what = 3; what <= 5; what++) {
            c.due("JOINTS of one PIECE, what " + what, c.desk.of(0, what), 0);
        }
        c.due("to its right", c.desk.joint(0, 0, 0, false), -1);
        c.due("below it", c.desk.joint(0, 0, 0, true), -1);
    }
}
