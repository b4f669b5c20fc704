import java.util.Arrays;

/**
 * A desk for whoever covers doors with leaves cut one behind the other from logs: drawings told by
 * a small text, pieces turned over and upside down whose grain meets as in a glass, flaws that
 * drift from leaf to leaf cut round, places found for whole rows of leaves at one height, and as
 * few logs for all doors as can be.
 *
 * <p>All rows are made with the object and used again: no call makes an object.
 */
public final class VeneerDesk {
    /** There is none; it is refused. */
    public static final int NONE = -1;

    private static final int LOGS = 3;
    private static final int DOORS = 8;
    private static final int MOST_LEAVES = 12;
    private static final int LEAST_LENGTH = 10;
    private static final int MOST_LENGTH = 60;
    private static final int LEAST_LOG_WIDE = 10;
    private static final int MOST_LOG_WIDE = 40;
    private static final int MOST_GROWS = 2;
    private static final int MOST_TONE = 100;
    private static final int MOST_DARKENS = 5;
    private static final int MOST_FLAWS = 10;
    private static final int MOST_FLAW_PLACE = 100;
    private static final int MOST_BOX = 100;
    private static final int MOST_DRIFT = 20;
    private static final int MOST_PIECE = 60;
    private static final int MOST_TONES = 200;
    private static final int OFFSETS = 10;

    private static final int NO_LEAF = -1000;
    private static final int NO_BOX = -2;
    private static final int NOT_WITHIN = -3;
    private static final int WRONG_NUMBER = -2;

    private final Reader reader;
    private final Tape tape;
    private final Planner planner;
    private final Yard yard;

    /** No LOGS, no DOORS. */
    public VeneerDesk() {
        reader = new Reader();
        tape = reader.tape;
        planner = new Planner();
        yard = planner.yard;
    }

    /** Puts twenty bytes behind those on the tape. */
    public int feed(int a, int b, int c, int d, int e) {
        if (!tape.hasRoom()) {
            return NONE;
        }
        tape.append(a);
        tape.append(b);
        tape.append(c);
        tape.append(d);
        tape.append(e);
        return tape.length;
    }

    /** Leaves the tape its first n bytes alone. */
    public boolean end(int n) {
        return tape.shorten(n);
    }

    /** Puts a new LOG in the place of the one before. */
    public boolean log(int l, int n, int length, int wide, int grows) {
        boolean can = isFrom(l, 0, LOGS - 1)
            && isFrom(n, 1, MOST_LEAVES)
            && isFrom(length, LEAST_LENGTH, MOST_LENGTH)
            && isFrom(wide, LEAST_LOG_WIDE, MOST_LOG_WIDE)
            && isFrom(grows, -MOST_GROWS, MOST_GROWS);
        if (!can) {
            return false;
        }
        yard.logs[l].begin(n, length, wide, grows);
        yard.forgetMadeOf(l);
        return true;
    }

    /** Tells the TONE of a LOG's first LEAF, and how it changes from LEAF to LEAF. */
    public boolean tone(int l, int tone, int darkens) {
        Log log = yard.logAt(l);
        if (log == null || !isFrom(tone, 0, MOST_TONE)) {
            return false;
        }
        if (!isFrom(darkens, -MOST_DARKENS, MOST_DARKENS)) {
            return false;
        }
        log.tone = tone;
        log.darkens = darkens;
        return true;
    }

    /** Adds a FLAW, in LEAF first alone, to a LOG. */
    public int flaw(int l, int first, int x, int y, int wide, int high) {
        Log log = yard.logAt(l);
        if (log == null || !log.hasLeaf(first)) {
            return NONE;
        }
        boolean can = isFrom(x, 0, MOST_FLAW_PLACE)
            && isFrom(y, 0, MOST_FLAW_PLACE)
            && isFrom(wide, 1, MOST_BOX)
            && isFrom(high, 1, MOST_BOX);
        return can ? log.addFlaw(first, x, y, wide, high) : NONE;
    }

    /** Lets the latest FLAW of a LOG drift up to a LEAF. */
    public boolean drift(int l, int last, int dx, int dy) {
        Log log = yard.logAt(l);
        if (log == null || !log.hasLeaf(last)) {
            return false;
        }
        return isFrom(dx, -MOST_DRIFT, MOST_DRIFT)
            && isFrom(dy, -MOST_DRIFT, MOST_DRIFT)
            && log.driftLatest(last, dx, dy);
    }

    /** Answers a number of a LEAF. */
    public int leaf(int l, int i, int what) {
        Log log = yard.logAt(l);
        if (log == null || !log.hasLeaf(i)) {
            return NO_LEAF;
        }
        switch (what) {
            case 0:
                return log.widthOf(i);
            case 1:
                return log.toneOf(i);
            case 2:
                return log.countFlawsIn(i);
            case 3:
                return log.cutCounts[i];
            case 4:
                return i == 0 ? log.leaves : NO_LEAF;
            case 5:
                return i == 0 ? log.length : NO_LEAF;
            default:
                return NO_LEAF;
        }
    }

    /** Answers the least FLAW that overlaps a box of a LEAF. */
    public int hit(int l, int i, int x, int y, int wide, int high) {
        Log log = yard.logAt(l);
        if (log == null || !log.hasLeaf(i)) {
            return NO_BOX;
        }
        if (!isFrom(wide, 1, MOST_BOX) || !isFrom(high, 1, MOST_BOX)) {
            return NO_BOX;
        }
        return log.holds(i, x, y, wide, high) ? log.leastFlawIn(i, x, y, wide, high) : NOT_WITHIN;
    }

    /** Reads the tape as the DRAWING of a DOOR. */
    public int door(int d, int wide, int high, int tones) {
        boolean can = isFrom(d, 0, DOORS - 1)
            && isFrom(wide, 1, MOST_PIECE)
            && isFrom(high, 1, MOST_PIECE)
            && isFrom(tones, 0, MOST_TONES);
        if (!can) {
            return WRONG_NUMBER;
        }
        boolean read = reader.readTape();
        tape.shorten(0);
        if (!read) {
            return NONE;
        }
        Door door = yard.doors[d];
        door.begin(reader.drawing, wide, high, tones);
        return door.drawing.count();
    }

    /** Answers the FAULT of the latest DRAWING that was read, or its place. */
    public int fault(int what) {
        if (what == 0) {
            return reader.faultKind;
        }
        return what == 1 ? reader.faultPlace : NONE;
    }

    /** Answers a number of a DOOR. */
    public int of(int d, int what) {
        Door door = yard.doorAt(d);
        if (door == null) {
            return NONE;
        }
        switch (what) {
            case 0:
                return door.drawing.wide;
            case 1:
                return door.drawing.high;
            case 2:
                return door.greatestOffset;
            case 3:
                return door.drawing.countJoints(Drawing.BOOK);
            case 4:
                return door.drawing.countJoints(Drawing.SLIP);
            case 5:
                return door.drawing.countJoints(Drawing.NO_MATCH);
            case 6:
                return door.madeOf;
            case 7:
                return door.leaf;
            case 8:
                return door.height;
            case 9:
                return door.x;
            default:
                return NONE;
        }
    }

    /** Answers a PIECE of a DOOR. */
    public int piece(int d, int column, int row) {
        Door door = yard.doorAt(d);
        if (door == null || !door.drawing.has(column, row)) {
            return NONE;
        }
        return door.drawing.cellAt(column, row);
    }

    /** Answers the JOINT of a PIECE with that to its right or below it. */
    public int joint(int d, int column, int row, boolean down) {
        Door door = yard.doorAt(d);
        return door == null ? NONE : door.drawing.jointAt(column, row, down);
    }

    /** Answers whether two DOORS' DRAWINGS are the same, the other one seen as told. */
    public int same(int d, int e, int how) {
        Door one = yard.doorAt(d);
        Door other = yard.doorAt(e);
        if (one == null || other == null || !isFrom(how, 0, 2)) {
            return NONE;
        }
        return one.drawing.isLike(other.drawing, how != 0, how == 2) ? 1 : 0;
    }

    /** Answers why a DOOR does not FIT. */
    public int why(int d, int l, int f, int y, int x) {
        Door door = yard.doorAt(d);
        Log log = yard.logAt(l);
        if (door == null || log == null) {
            return NONE;
        }
        return yard.finder.reason(door, log, f, y, x);
    }

    /** Answers a number of the PLACE of a DOOR in a LOG. */
    public int place(int d, int l, int what) {
        Door door = yard.doorAt(d);
        Log log = yard.logAt(l);
        if (door == null || log == null || !isFrom(what, 0, 2)) {
            return NONE;
        }
        Finder finder = yard.finder;
        if (!finder.find(door, log)) {
            return NONE;
        }
        if (what == 0) {
            return finder.leaf;
        }
        return what == 1 ? finder.height : finder.x;
    }

    /** Makes a DOOR at its PLACE in a LOG. */
    public int make(int d, int l) {
        Door door = yard.doorAt(d);
        if (door == null || door.isMade() || !yard.makeIn(door, l)) {
            return NONE;
        }
        return door.drawing.count();
    }

    /** Answers how many LOGS the PLAN has. */
    public int plan() {
        return planner.tell();
    }

    /** Answers the LOG of a DOOR in the latest PLAN that was told. */
    public int planned(int d) {
        return isFrom(d, 0, DOORS - 1) ? planner.told[d] : NONE;
    }

    /** Takes a made DOOR back. */
    public boolean free(int d) {
        Door door = yard.doorAt(d);
        if (door == null || !door.isMade()) {
            return false;
        }
        yard.takeBack(door);
        return true;
    }

    private static boolean isFrom(int value, int least, int most) {
        return least <= value && value <= most;
    }

    /** The bytes of a text that has not been read yet. */
    private static final class Tape {
        private static final int MOST_BYTES = 400;
        private static final int FED = 20;

        final int[] bytes = new int[MOST_BYTES];
        int length;

        boolean hasRoom() {
            return length + FED <= MOST_BYTES;
        }

        void append(int number) {
            for (int shift = 24; shift >= 0 && length < MOST_BYTES; shift -= 8) {
                bytes[length] = number >>> shift & 255;
                length++;
            }
        }

        boolean shorten(int n) {
            boolean can = isFrom(n, 0, length);
            if (can) {
                length = n;
            }
            return can;
        }

        int byteAt(int i) {
            return 0 <= i && i < length ? bytes[i] : NONE;
        }
    }

    /** PIECES, row by row in a square of MOST by MOST; each is its offset with OVER and UPSIDE. */
    private static final class Drawing {
        static final int MOST = 8;
        static final int OVER = 16;
        static final int UPSIDE = 32;
        static final int BOOK = 2;
        static final int SLIP = 1;
        static final int NO_MATCH = 0;
        private static final int OFFSET = 15;

        final int[] cells = new int[MOST * MOST];
        int wide;
        int high;

        int count() {
            return wide * high;
        }

        boolean has(int column, int row) {
            return isFrom(column, 0, wide - 1) && isFrom(row, 0, high - 1);
        }

        int cellAt(int column, int row) {
            boolean inSquare = 0 <= column && column < MOST && 0 <= row && row < MOST;
            return inSquare ? cells[row * MOST + column] : NONE;
        }

        // What lies beyond the square is dropped: a text that goes there is refused in the end,
        // but only when what stands behind the sign has been read.
        void setCell(int column, int row, int cell) {
            if (0 <= column && column < MOST && 0 <= row && row < MOST) {
                cells[row * MOST + column] = cell;
            }
        }

        int offsetAt(int column, int row) {
            return Math.min(cellAt(column, row) & OFFSET, OFFSETS - 1);
        }

        void copyFrom(Drawing other) {
            System.arraycopy(other.cells, 0, cells, 0, cells.length);
            wide = other.wide;
            high = other.high;
        }

        void changeSides(int left, int top, int boxWide, int boxHigh) {
            for (int row = top; row < top + boxHigh; row++) {
                for (int from = left, to = left + boxWide - 1; from <= to; from++, to--) {
                    int cell = cellAt(from, row);
                    setCell(from, row, cellAt(to, row) ^ OVER);
                    setCell(to, row, cell ^ OVER);
                }
            }
        }

        void changeEnds(int left, int top, int boxWide, int boxHigh) {
            for (int column = left; column < left + boxWide; column++) {
                for (int from = top, to = top + boxHigh - 1; from <= to; from++, to--) {
                    int cell = cellAt(column, from);
                    setCell(column, from, cellAt(column, to) ^ UPSIDE);
                    setCell(column, to, cell ^ UPSIDE);
                }
            }
        }

        void repeat(int left, int top, int boxWide, int boxHigh, int times) {
            for (int row = top; row < top + boxHigh; row++) {
                for (int column = left + boxWide; column < left + boxWide * times; column++) {
                    setCell(column, row, cellAt(column - boxWide, row));
                }
            }
        }

        int jointAt(int column, int row, boolean down) {
            if (!has(column, row)) {
                return NONE;
            }
            int nextColumn = down ? column : column + 1;
            int nextRow = down ? row + 1 : row;
            if (!has(nextColumn, nextRow)) {
                return NONE;
            }
            int piece = cellAt(column, row);
            int next = cellAt(nextColumn, nextRow);
            return down ? jointBelow(piece, next) : jointBeside(piece, next);
        }

        private static int jointBeside(int left, int right) {
            int step = (right & OFFSET) - (left & OFFSET);
            if (Math.abs(step) != 1 || differ(left, right, UPSIDE)) {
                return NO_MATCH;
            }
            if (differ(left, right, OVER)) {
                return BOOK;
            }
            boolean bothOver = (left & OVER) != 0;
            return step == (bothOver ? -1 : 1) ? SLIP : NO_MATCH;
        }

        private static int jointBelow(int upper, int lower) {
            int step = (lower & OFFSET) - (upper & OFFSET);
            boolean book = Math.abs(step) == 1
                && !differ(upper, lower, OVER)
                && differ(upper, lower, UPSIDE);
            return book ? BOOK : NO_MATCH;
        }

        private static boolean differ(int piece, int other, int sign) {
            return ((piece ^ other) & sign) != 0;
        }

        int countJoints(int kind) {
            int found = 0;
            for (int row = 0; row < high; row++) {
                for (int column = 0; column < wide; column++) {
                    found += jointAt(column, row, false) == kind ? 1 : 0;
                    found += jointAt(column, row, true) == kind ? 1 : 0;
                }
            }
            return found;
        }

        boolean isLike(Drawing other, boolean sides, boolean ends) {
            if (wide != other.wide || high != other.high) {
                return false;
            }
            int changed = (sides ? OVER : 0) | (ends ? UPSIDE : 0);
            for (int row = 0; row < high; row++) {
                for (int column = 0; column < wide; column++) {
                    int otherColumn = sides ? wide - 1 - column : column;
                    int otherRow = ends ? high - 1 - row : row;
                    int seen = other.cellAt(otherColumn, otherRow) ^ changed;
                    if (cellAt(column, row) != seen) {
                        return false;
                    }
                }
            }
            return true;
        }
    }

    /**
     * Reads a DRAWING's TEXT. Each part is drawn where it stands in the whole DRAWING as soon as it
     * is read, so that no part needs cells of its own.
     */
    private static final class Reader {
        private static final int MOST_OPEN = 6;
        private static final int MISPLACED = 1;
        private static final int UNEQUAL = 2;
        private static final int TOO_BIG = 3;

        final Tape tape = new Tape();
        final Drawing drawing = new Drawing();
        int faultKind;
        int faultPlace = NONE;

        private int at;
        // The size of what was read last.
        private int wide;
        private int high;

        boolean readTape() {
            at = 0;
            faultKind = 0;
            faultPlace = NONE;
            if (!readRow(0, 0, 0)) {
                return false;
            }
            if (nextByte() != NONE) {
                return refuse(MISPLACED, at);
            }
            drawing.wide = wide;
            drawing.high = high;
            return true;
        }

        // Every column is 1 wide at least, so the row is too wide before the loop's bound ends it.
        private boolean readRow(int left, int top, int open) {
            if (!readColumn(left, top, open)) {
                return false;
            }
            int rowWide = wide;
            int rowHigh = high;
            for (int n = 0; n < Drawing.MOST && nextByte() == '|'; n++) {
                int sign = at;
                at++;
                if (!readColumn(left + rowWide, top, open)) {
                    return false;
                }
                if (high != rowHigh) {
                    return refuse(UNEQUAL, sign);
                }
                rowWide += wide;
                if (rowWide > Drawing.MOST) {
                    return refuse(TOO_BIG, sign);
                }
            }
            wide = rowWide;
            high = rowHigh;
            return true;
        }

        // Every part is 1 high at least, so the column is too high before the loop's bound ends it.
        private boolean readColumn(int left, int top, int open) {
            if (!readPart(left, top, open)) {
                return false;
            }
            int columnWide = wide;
            int columnHigh = high;
            for (int n = 0; n < Drawing.MOST && nextByte() == '/'; n++) {
                int sign = at;
                at++;
                if (!readPart(left, top + columnHigh, open)) {
                    return false;
                }
                if (wide != columnWide) {
                    return refuse(UNEQUAL, sign);
                }
                columnHigh += high;
                if (columnHigh > Drawing.MOST) {
                    return refuse(TOO_BIG, sign);
                }
            }
            wide = columnWide;
            high = columnHigh;
            return true;
        }

        private boolean readPart(int left, int top, int open) {
            int first = nextByte();
            int start = at;
            boolean isDigit = isFrom(first, '0', '9');
            if (!isDigit && first != '(' && first != '!' && first != '~') {
                return refuse(MISPLACED, start);
            }
            at++;
            boolean repeats = isFrom(first, '2', '9') && nextByte() == 'x';
            if (isDigit && !repeats) {
                return drawPiece(left, top, first - '0');
            }
            if (open >= MOST_OPEN) {
                return refuse(MISPLACED, start);
            }
            if (repeats) {
                return readRepeated(left, top, open + 1, first - '0');
            }
            return first == '('
                ? readBracket(left, top, open + 1)
                : readChanged(left, top, open + 1, first == '~');
        }

        private boolean drawPiece(int left, int top, int offset) {
            drawing.setCell(left, top, offset);
            wide = 1;
            high = 1;
            return true;
        }

        private boolean readBracket(int left, int top, int open) {
            if (!readRow(left, top, open)) {
                return false;
            }
            if (nextByte() != ')') {
                return refuse(MISPLACED, at);
            }
            at++;
            return true;
        }

        private boolean readChanged(int left, int top, int open, boolean turned) {
            if (!readPart(left, top, open)) {
                return false;
            }
            drawing.changeSides(left, top, wide, high);
            if (turned) {
                drawing.changeEnds(left, top, wide, high);
            }
            return true;
        }

        private boolean readRepeated(int left, int top, int open, int times) {
            int sign = at;
            at++;
            if (!readPart(left, top, open)) {
                return false;
            }
            if (wide * times > Drawing.MOST) {
                return refuse(TOO_BIG, sign);
            }
            drawing.repeat(left, top, wide, high, times);
            wide *= times;
            return true;
        }

        private int nextByte() {
            while (at < tape.length && isBlank(tape.byteAt(at))) {
                at++;
            }
            return tape.byteAt(at);
        }

        private static boolean isBlank(int sign) {
            return sign == 10 || sign == 32;
        }

        private boolean refuse(int kind, int place) {
            faultKind = kind;
            faultPlace = place;
            return false;
        }
    }

    /** A box that drifts from LEAF to LEAF. */
    private static final class Flaw {
        int first;
        int last;
        int x;
        int y;
        int wide;
        int high;
        int dx;
        int dy;

        void begin(int onlyLeaf, int atX, int atY, int boxWide, int boxHigh) {
            first = onlyLeaf;
            x = atX;
            y = atY;
            wide = boxWide;
            high = boxHigh;
            driftTo(onlyLeaf, 0, 0);
        }

        void driftTo(int lastLeaf, int byX, int byY) {
            last = lastLeaf;
            dx = byX;
            dy = byY;
        }

        int leftIn(int i) {
            return x + (i - first) * dx;
        }

        int topIn(int i) {
            return y + (i - first) * dy;
        }

        boolean overlaps(int i, int left, int top, int boxWide, int boxHigh) {
            return isFrom(i, first, last)
                && leftIn(i) < left + boxWide
                && left < leftIn(i) + wide
                && topIn(i) < top + boxHigh
                && top < topIn(i) + high;
        }
    }

    /**
     * A LOG. All sides of boxes are whole numbers and no LEAF is wider than 62, so a row of a LEAF,
     * 1 high, is one long with a bit for each 1 of its width: FLAWS and CUTS are found by masks,
     * however many CUTS there are.
     */
    private static final class Log {
        boolean there;
        int leaves;
        int length;
        int tone;
        int darkens;
        final int[] cutCounts = new int[MOST_LEAVES];

        private int wide;
        private int grows;
        private int flawCount;
        private final Flaw[] flaws = new Flaw[MOST_FLAWS];
        private final long[] flawRows = new long[MOST_LEAVES * MOST_LENGTH];
        private final long[] cutRows = new long[MOST_LEAVES * MOST_LENGTH];

        Log() {
            for (int i = 0; i < MOST_FLAWS; i++) {
                flaws[i] = new Flaw();
            }
        }

        void begin(int newLeaves, int newLength, int newWide, int newGrows) {
            there = true;
            leaves = newLeaves;
            length = newLength;
            wide = newWide;
            grows = newGrows;
            tone = 0;
            darkens = 0;
            flawCount = 0;
            Arrays.fill(cutCounts, 0);
            Arrays.fill(flawRows, 0L);
            Arrays.fill(cutRows, 0L);
        }

        boolean hasLeaf(long i) {
            return 0 <= i && i < leaves;
        }

        int widthOf(int i) {
            return Math.max(1, wide + i * grows);
        }

        int toneOf(int i) {
            return tone + i * darkens;
        }

        boolean holds(int i, int x, long y, int boxWide, int boxHigh) {
            return 0 <= x
                && x <= widthOf(i) - boxWide
                && 0 <= y
                && y <= length - boxHigh;
        }

        int addFlaw(int first, int x, int y, int boxWide, int boxHigh) {
            if (flawCount >= MOST_FLAWS) {
                return NONE;
            }
            flaws[flawCount].begin(first, x, y, boxWide, boxHigh);
            markFlaw(flaws[flawCount]);
            flawCount++;
            return flawCount - 1;
        }

        boolean driftLatest(int last, int dx, int dy) {
            if (flawCount == 0 || last < flaws[flawCount - 1].first) {
                return false;
            }
            flaws[flawCount - 1].driftTo(last, dx, dy);
            // Other FLAWS may have marked what the latest one leaves.
            Arrays.fill(flawRows, 0L);
            for (int k = 0; k < flawCount; k++) {
                markFlaw(flaws[k]);
            }
            return true;
        }

        private void markFlaw(Flaw flaw) {
            for (int i = flaw.first; i <= flaw.last && i < leaves; i++) {
                int left = Math.max(0, flaw.leftIn(i));
                int right = Math.min(widthOf(i), flaw.leftIn(i) + flaw.wide);
                int top = Math.max(0, flaw.topIn(i));
                int bottom = Math.min(length, flaw.topIn(i) + flaw.high);
                for (int y = top; y < bottom && left < right; y++) {
                    flawRows[i * MOST_LENGTH + y] |= mask(left, right - left);
                }
            }
        }

        int countFlawsIn(int i) {
            int found = 0;
            for (int k = 0; k < flawCount; k++) {
                found += flaws[k].overlaps(i, 0, 0, widthOf(i), length) ? 1 : 0;
            }
            return found;
        }

        int leastFlawIn(int i, int x, int y, int boxWide, int boxHigh) {
            for (int k = 0; k < flawCount; k++) {
                if (flaws[k].overlaps(i, x, y, boxWide, boxHigh)) {
                    return k;
                }
            }
            return NONE;
        }

        boolean isFlawed(int i, int x, int y, int boxWide, int boxHigh) {
            return meets(flawRows, i, y, boxHigh, mask(x, boxWide));
        }

        boolean isCut(int i, int x, int y, int boxWide, int boxHigh) {
            return meets(cutRows, i, y, boxHigh, mask(x, boxWide));
        }

        private static boolean meets(long[] rows, int i, int y, int boxHigh, long columns) {
            int start = i * MOST_LENGTH + y;
            int stop = Math.min(start + boxHigh, rows.length);
            for (int row = Math.max(0, start); row < stop; row++) {
                if ((rows[row] & columns) != 0L) {
                    return true;
                }
            }
            return false;
        }

        long takenColumns(int i, int y, int boxHigh) {
            long columns = 0L;
            int start = i * MOST_LENGTH + y;
            for (int row = start; row < start + boxHigh && row < cutRows.length; row++) {
                columns |= flawRows[row] | cutRows[row];
            }
            return columns;
        }

        // CUTS never overlap, so that changing the bits both makes them and takes them back.
        private void changeCuts(Door door, int sign) {
            for (int offset = 0; offset < OFFSETS; offset++) {
                int i = door.leaf + offset;
                if (door.stacked[offset] == 0 || !hasLeaf(i)) {
                    continue;
                }
                cutCounts[i] += sign * door.stacked[offset];
                int stop = Math.min(length, door.height + door.stackHigh(offset));
                for (int y = Math.max(0, door.height); y < stop; y++) {
                    cutRows[i * MOST_LENGTH + y] ^= mask(door.x, door.wide);
                }
            }
        }

        void addCuts(Door door) {
            changeCuts(door, 1);
        }

        void removeCuts(Door door) {
            changeCuts(door, -1);
        }

        static long mask(int x, int boxWide) {
            return (1L << boxWide) - 1L << x;
        }
    }

    /** A DOOR, and where it is made. */
    private static final class Door {
        final Drawing drawing = new Drawing();
        // How many PIECES there are of each offset: their CUTS lie one above the other in one LEAF.
        final int[] stacked = new int[OFFSETS];
        boolean there;
        int wide;
        int high;
        int tones;
        int leastOffset;
        int greatestOffset;
        int madeOf = NONE;
        int leaf = NONE;
        int height = NONE;
        int x = NONE;

        void begin(Drawing read, int pieceWide, int pieceHigh, int tonesApart) {
            there = true;
            drawing.copyFrom(read);
            wide = pieceWide;
            high = pieceHigh;
            tones = tonesApart;
            notMade();
            countOffsets();
        }

        private void countOffsets() {
            Arrays.fill(stacked, 0);
            leastOffset = OFFSETS - 1;
            greatestOffset = 0;
            for (int row = 0; row < drawing.high; row++) {
                for (int column = 0; column < drawing.wide; column++) {
                    int offset = drawing.offsetAt(column, row);
                    stacked[offset]++;
                    leastOffset = Math.min(leastOffset, offset);
                    greatestOffset = Math.max(greatestOffset, offset);
                }
            }
        }

        int stackHigh(int offset) {
            return stacked[offset] * high;
        }

        boolean isMade() {
            return madeOf != NONE;
        }

        void madeAt(int l, Finder found) {
            madeOf = l;
            leaf = found.leaf;
            height = found.height;
            x = found.x;
        }

        void notMade() {
            madeOf = NONE;
            leaf = NONE;
            height = NONE;
            x = NONE;
        }
    }

    /** Finds where a DOOR FITS in a LOG, and why it does not. */
    private static final class Finder {
        private static final int FITS = 0;
        private static final int LEAF_MISSING = 1;
        private static final int CUT_BEYOND = 2;
        private static final int FLAWED = 3;
        private static final int CUT_BEFORE = 4;
        private static final int TONES_APART = 5;

        // The PLACE that was found last.
        int leaf;
        int height;
        int x;

        private final int[] met = new int[OFFSETS];

        int reason(Door door, Log log, int f, int y, int atX) {
            Arrays.fill(met, 0);
            for (int row = 0; row < door.drawing.high; row++) {
                for (int column = 0; column < door.drawing.wide; column++) {
                    int offset = door.drawing.offsetAt(column, row);
                    long top = (long) y + met[offset] * door.high;
                    int reason = reasonOfCut(door, log, (long) f + offset, top, atX);
                    if (reason != FITS) {
                        return reason;
                    }
                    met[offset]++;
                }
            }
            return areTonesApart(door, log) ? TONES_APART : FITS;
        }

        private static int reasonOfCut(Door door, Log log, long cutLeaf, long top, int atX) {
            if (!log.hasLeaf(cutLeaf)) {
                return LEAF_MISSING;
            }
            int i = (int) cutLeaf;
            if (!log.holds(i, atX, top, door.wide, door.high)) {
                return CUT_BEYOND;
            }
            int y = (int) top;
            if (log.isFlawed(i, atX, y, door.wide, door.high)) {
                return FLAWED;
            }
            return log.isCut(i, atX, y, door.wide, door.high) ? CUT_BEFORE : FITS;
        }

        // TONES change by the same from LEAF to LEAF, so it does not matter where the DOOR begins.
        private static boolean areTonesApart(Door door, Log log) {
            int steps = door.greatestOffset - door.leastOffset;
            return steps * Math.abs(log.darkens) > door.tones;
        }

        boolean find(Door door, Log log) {
            if (areTonesApart(door, log)) {
                return false;
            }
            for (int f = 0; f + door.greatestOffset < log.leaves; f++) {
                if (findFrom(door, log, f)) {
                    return true;
                }
            }
            return false;
        }

        private boolean findFrom(Door door, Log log, int f) {
            int lastX = log.widthOf(f + door.leastOffset) - door.wide;
            int lastY = log.length - door.high;
            for (int offset = door.leastOffset; offset <= door.greatestOffset; offset++) {
                if (door.stacked[offset] > 0) {
                    lastX = Math.min(lastX, log.widthOf(f + offset) - door.wide);
                    lastY = Math.min(lastY, log.length - door.stackHigh(offset));
                }
            }
            for (int y = 0; y <= lastY && lastX >= 0; y++) {
                int free = firstFree(takenColumns(door, log, f, y), door.wide, lastX);
                if (free != NONE) {
                    leaf = f;
                    height = y;
                    x = free;
                    return true;
                }
            }
            return false;
        }

        private static long takenColumns(Door door, Log log, int f, int y) {
            long taken = 0L;
            for (int offset = door.leastOffset; offset <= door.greatestOffset; offset++) {
                taken |= log.takenColumns(f + offset, y, door.stackHigh(offset));
            }
            return taken;
        }

        private static int firstFree(long taken, int wide, int lastX) {
            for (int at = 0; at <= lastX; at++) {
                if ((taken & Log.mask(at, wide)) == 0L) {
                    return at;
                }
            }
            return NONE;
        }
    }

    /** All LOGS and DOORS. */
    private static final class Yard {
        final Log[] logs = new Log[LOGS];
        final Door[] doors = new Door[DOORS];
        final Finder finder = new Finder();

        Yard() {
            for (int l = 0; l < LOGS; l++) {
                logs[l] = new Log();
            }
            for (int d = 0; d < DOORS; d++) {
                doors[d] = new Door();
            }
        }

        Log logAt(int l) {
            return isFrom(l, 0, LOGS - 1) && logs[l].there ? logs[l] : null;
        }

        Door doorAt(int d) {
            return isFrom(d, 0, DOORS - 1) && doors[d].there ? doors[d] : null;
        }

        void forgetMadeOf(int l) {
            for (int d = 0; d < DOORS; d++) {
                if (doors[d].madeOf == l) {
                    doors[d].notMade();
                }
            }
        }

        boolean makeIn(Door door, int l) {
            Log log = logAt(l);
            if (log == null || !finder.find(door, log)) {
                return false;
            }
            door.madeAt(l, finder);
            log.addCuts(door);
            return true;
        }

        void takeBack(Door door) {
            Log log = logAt(door.madeOf);
            if (log != null) {
                log.removeCuts(door);
            }
            door.notMade();
        }
    }

    /** Tries the LOGS for the DOORS by making them and taking them back. */
    private static final class Planner {
        private static final int MOST_WAITING = 3;
        private static final int NO_DOORS = -1;
        private static final int NO_PLAN = -2;

        final Yard yard = new Yard();
        final int[] told = new int[DOORS];

        private final int[] waiting = new int[MOST_WAITING];
        private final int[] tried = new int[MOST_WAITING];
        private final int[] best = new int[MOST_WAITING];
        private int count;
        private int bestLogs;

        Planner() {
            Arrays.fill(told, NONE);
        }

        int tell() {
            if (!gatherWaiting()) {
                return NO_DOORS;
            }
            bestLogs = LOGS + 1;
            tryDoor(0, 0);
            if (bestLogs > LOGS) {
                return NO_PLAN;
            }
            Arrays.fill(told, NONE);
            for (int k = 0; k < count; k++) {
                told[waiting[k]] = best[k];
            }
            return bestLogs;
        }

        private boolean gatherWaiting() {
            count = 0;
            for (int d = 0; d < DOORS; d++) {
                if (!yard.doors[d].there || yard.doors[d].isMade()) {
                    continue;
                }
                if (count == MOST_WAITING) {
                    return false;
                }
                waiting[count] = d;
                count++;
            }
            return count > 0;
        }

        // The least LOGS are tried first, so that of plans with as many LOGS the first one stays.
        private void tryDoor(int k, int usedLogs) {
            if (Integer.bitCount(usedLogs) >= bestLogs) {
                return;
            }
            if (k >= count) {
                bestLogs = Integer.bitCount(usedLogs);
                System.arraycopy(tried, 0, best, 0, count);
                return;
            }
            Door door = yard.doors[waiting[k]];
            for (int l = 0; l < LOGS; l++) {
                if (yard.makeIn(door, l)) {
                    tried[k] = l;
                    tryDoor(k + 1, usedLogs | 1 << l);
                    yard.takeBack(door);
                }
            }
        }
    }
}
