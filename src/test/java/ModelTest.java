import java.util.Random;

/** All promises: runs of up to 512 calls, each answered alike by VeneerDesk and PlainDesk. */
public final class ModelTest {
    private static final int RUNS = 600;
    private static final int MOST_OF_A_STEP = 25;
    private static final int[] FAR = {Integer.MIN_VALUE, Integer.MIN_VALUE + 1, -1, Integer.MAX_VALUE, Integer.MAX_VALUE - 7};

    private final Checks c = new Checks();
    private final Random random;
    private final boolean small;
    private final VeneerDesk x = new VeneerDesk();
    private final PlainDesk y = new PlainDesk();
    private int calls;

    private ModelTest(long seed) {
        random = new Random(seed);
        small = seed % 2 == 0;
        c.part("run " + seed);
    }

    public static void main(String[] args) {
        int wrong = 0;
        int asked = 0;
        for (int seed = 0; seed < RUNS && wrong < 5; seed++) {
            ModelTest run = new ModelTest(seed);
            try {
                wrong += run.run();
            } catch (RuntimeException thrown) {
                wrong++;
                System.out.println("run " + seed + ": call " + run.calls + " threw " + thrown);
            }
            asked += run.calls;
        }
        System.out.println(asked + " answers asked in " + RUNS + " runs, " + wrong + " runs not as due");
        if (wrong != 0) {
            System.exit(1);
        }
    }

    /** Runs to the first answer that is not as due: 1 if there is one. */
    private int run() {
        for (int l = 0; l < 3; l++) {
            if (random.nextInt(5) > 0 && !beginLog(l)) {
                return 1;
            }
        }
        while (calls + MOST_OF_A_STEP <= Checks.MOST_CALLS) {
            if (!step()) {
                return 1;
            }
        }
        return 0;
    }

    private boolean beginLog(int l) {
        if (!logOf(l) || !toneOf(l)) {
            return false;
        }
        for (int k = random.nextInt(11); k > 0; k--) {
            if (!flawOf(l) || random.nextBoolean() && !driftOf(l)) {
                return false;
            }
        }
        return true;
    }

    private boolean like(String call, long got, long want) {
        calls++;
        c.due("call " + calls + ", " + call, got, want);
        return got == want;
    }

    private boolean like(String call, boolean got, boolean want) {
        return like(call, got ? 1 : 0, want ? 1 : 0);
    }

    /** Mostly a number from least to most, now and then one just beside, or far away. */
    private int number(int least, int most) {
        int kind = random.nextInt(150);
        if (kind == 0) {
            return FAR[random.nextInt(FAR.length)];
        }
        if (kind == 1) {
            return least - 1;
        }
        if (kind == 2) {
            return most + 1;
        }
        if (kind < 9) {
            return kind < 6 ? least : most;
        }
        return least + random.nextInt(most - least + 1);
    }

    private int log() {
        return number(0, 2);
    }

    private int door() {
        return number(0, random.nextInt(30) == 0 ? 7 : small ? 3 : 4);
    }

    private int leafOf(int l) {
        return number(0, Math.max(1, y.leaf(l, 0, 4)) - 1);
    }

    private boolean step() {
        switch (random.nextInt(22)) {
            case 0:
                return stepLog();
            case 1:
                return stepTone();
            case 2:
                return stepFlaw();
            case 3:
                return stepDrift();
            case 4:
                return stepLeaf();
            case 5:
                return stepHit();
            case 6:
            case 7:
            case 8:
                return stepDoor();
            case 9:
                return stepTape();
            case 10:
                return stepOf();
            case 11:
                return stepPiece();
            case 12:
                return stepJoint();
            case 13:
                return stepSame();
            case 14:
            case 15:
                return stepWhy();
            case 16:
                return stepPlace();
            case 17:
            case 18:
                return stepMake();
            case 19:
                return stepPlan();
            default:
                return random.nextInt(2) == 0 ? stepFree() : stepLeaf();
        }
    }

    private boolean stepLog() {
        return random.nextInt(6) > 0 || logOf(log());
    }

    private boolean logOf(int l) {
        int n = number(1, small ? 3 : 12);
        int length = number(10, small ? 24 : 60);
        int wide = number(10, small ? 16 : 40);
        int grows = number(-2, 2);
        return like("log(" + l + ", " + n + ", " + length + ", " + wide + ", " + grows + ")",
            x.log(l, n, length, wide, grows), y.log(l, n, length, wide, grows));
    }

    private boolean stepTone() {
        return random.nextInt(2) > 0 || toneOf(log());
    }

    private boolean toneOf(int l) {
        int tone = number(0, 100);
        int darkens = number(-5, 5);
        return like("tone(" + l + ", " + tone + ", " + darkens + ")", x.tone(l, tone, darkens), y.tone(l, tone, darkens));
    }

    private boolean stepFlaw() {
        return random.nextInt(3) > 0 || flawOf(log());
    }

    private boolean flawOf(int l) {
        int first = leafOf(l);
        int left = number(0, random.nextInt(6) == 0 ? 100 : small ? 16 : 40);
        int top = number(0, random.nextInt(6) == 0 ? 100 : small ? 24 : 60);
        int wide = number(1, random.nextInt(12) == 0 ? 100 : 9);
        int high = number(1, random.nextInt(12) == 0 ? 100 : 9);
        return like("flaw(" + l + ", " + first + ", " + left + ", " + top + ", " + wide + ", " + high + ")",
            x.flaw(l, first, left, top, wide, high), y.flaw(l, first, left, top, wide, high));
    }

    private boolean stepDrift() {
        return random.nextInt(3) > 0 || driftOf(log());
    }

    private boolean driftOf(int l) {
        int last = leafOf(l);
        int far = random.nextInt(3) == 0 ? 20 : 3;
        int dx = number(-far, far);
        int dy = number(-far, far);
        return like("drift(" + l + ", " + last + ", " + dx + ", " + dy + ")", x.drift(l, last, dx, dy), y.drift(l, last, dx, dy));
    }

    private boolean stepLeaf() {
        int l = log();
        int i = leafOf(l);
        int what = number(0, 5);
        if (what > 3 && random.nextBoolean()) {
            i = 0;
        }
        return like("leaf(" + l + ", " + i + ", " + what + ")", x.leaf(l, i, what), y.leaf(l, i, what));
    }

    private boolean stepHit() {
        int l = log();
        int i = leafOf(l);
        int left = number(0, small ? 12 : 30);
        int top = number(0, small ? 20 : 50);
        int wide = number(1, random.nextInt(8) == 0 ? 100 : 12);
        int high = number(1, random.nextInt(8) == 0 ? 100 : 12);
        return like("hit(" + l + ", " + i + ", " + left + ", " + top + ", " + wide + ", " + high + ")",
            x.hit(l, i, left, top, wide, high), y.hit(l, i, left, top, wide, high));
    }

    private boolean feedText(String text) {
        int start = 0;
        while (start < text.length()) {
            int[] numbers = new int[5];
            for (int k = 0; k < 20; k++) {
                int sign = start + k < text.length() ? text.charAt(start + k) : ' ';
                numbers[k / 4] = numbers[k / 4] << 8 | sign;
            }
            int got = x.feed(numbers[0], numbers[1], numbers[2], numbers[3], numbers[4]);
            if (!like("feed of \"" + text + "\"", got, y.feed(numbers))) {
                return false;
            }
            start += 20;
        }
        return true;
    }

    private boolean stepTape() {
        if (random.nextInt(4) > 0) {
            int n = number(0, 60);
            return like("end(" + n + ")", x.end(n), y.end(n));
        }
        StringBuilder text = new StringBuilder();
        for (int k = random.nextInt(random.nextInt(3) == 0 ? 420 : 40); k >= 0; k--) {
            text.append(noise());
        }
        return feedText(text.toString());
    }

    private char noise() {
        String signs = "0123x|/()!~ \n";
        return random.nextInt(40) == 0 ? (char) random.nextInt(256) : signs.charAt(random.nextInt(signs.length()));
    }

    private boolean stepDoor() {
        if (random.nextInt(12) > 0) {
            if (!like("end(0)", x.end(0), y.end(0))) {
                return false;
            }
            String text = text();
            boolean fed = feedText(text) && like("end(" + text.length() + ")", x.end(text.length()), y.end(text.length()));
            if (!fed) {
                return false;
            }
        }
        int d = door();
        int wide = number(1, random.nextInt(12) == 0 ? 60 : small ? 8 : 14);
        int high = number(1, random.nextInt(12) == 0 ? 60 : small ? 8 : 14);
        int tones = random.nextInt(3) == 0 ? number(0, 20) : number(60, 200);
        return like("door(" + d + ", " + wide + ", " + high + ", " + tones + ")", x.door(d, wide, high, tones), y.door(d, wide, high, tones))
            && like("fault(0)", x.fault(0), y.fault(0))
            && like("fault(1)", x.fault(1), y.fault(1));
    }

    /** A text of the right form and size, with a fault in it at times. */
    private String text() {
        int most = random.nextInt(10) == 0 ? 9 : random.nextInt(3) == 0 ? 4 : 2;
        String text = rowText(1 + random.nextInt(most), 1 + random.nextInt(most), random.nextInt(6));
        StringBuilder spaced = new StringBuilder();
        boolean blanks = random.nextInt(4) == 0;
        for (int k = 0; k < text.length(); k++) {
            if (blanks && random.nextInt(5) == 0) {
                spaced.append(random.nextBoolean() ? ' ' : '\n');
            }
            spaced.append(text.charAt(k));
        }
        for (int k = random.nextInt(5) == 0 ? 1 + random.nextInt(2) : 0; k > 0; k--) {
            int place = random.nextInt(spaced.length());
            switch (random.nextInt(3)) {
                case 0:
                    spaced.insert(place, noise());
                    break;
                case 1:
                    spaced.setCharAt(place, noise());
                    break;
                default:
                    spaced.setLength(place + 1);
            }
        }
        return spaced.substring(0, Math.min(400, spaced.length()));
    }

    private int part(int whole) {
        int slip = random.nextInt(150) == 0 ? 1 : 0;
        return 1 + random.nextInt(whole - 1) + slip;
    }

    private String rowText(int wide, int high, int deep) {
        if (wide > 1 && random.nextInt(3) > 0) {
            int left = part(wide);
            return rowText(left, high, deep) + "|" + rowText(Math.max(1, wide - left), high, deep);
        }
        return columnText(wide, high, deep);
    }

    private String columnText(int wide, int high, int deep) {
        if (high > 1 && (deep == 0 || random.nextInt(3) > 0)) {
            int upper = part(high);
            return columnText(wide, upper, deep) + "/" + columnText(wide, Math.max(1, high - upper), deep);
        }
        return partText(wide, high, deep);
    }

    private String partText(int wide, int high, int deep) {
        int kind = random.nextInt(6);
        if (deep > 0 && kind < 2) {
            return (kind == 0 ? "!" : "~") + partText(wide, high, deep - 1);
        }
        if (deep > 0 && kind == 2 && wide > 1) {
            int times = 2 + random.nextInt(wide - 1);
            if (wide % times == 0) {
                return times + "x" + partText(wide / times, high, deep - 1);
            }
        }
        if (wide == 1 && high == 1 && (deep == 0 || kind > 3)) {
            int most = small ? 2 : random.nextInt(4) == 0 ? 10 : 4;
            return String.valueOf(random.nextInt(most));
        }
        // Deeper than the generator meant to go, where a size cannot be told otherwise.
        return wide == 1 && high == 1 ? "1" : "(" + rowText(wide, high, Math.max(0, deep - 1)) + ")";
    }

    private boolean stepOf() {
        int d = door();
        int what = number(0, 9);
        return like("of(" + d + ", " + what + ")", x.of(d, what), y.of(d, what));
    }

    private boolean stepPiece() {
        int d = door();
        int column = number(0, Math.max(1, y.of(d, 0)) - 1);
        int row = number(0, Math.max(1, y.of(d, 1)) - 1);
        return like("piece(" + d + ", " + column + ", " + row + ")", x.piece(d, column, row), y.piece(d, column, row));
    }

    private boolean stepJoint() {
        int d = door();
        int column = number(0, Math.max(1, y.of(d, 0) - random.nextInt(2)) - 1);
        int row = number(0, Math.max(1, y.of(d, 1) - random.nextInt(2)) - 1);
        boolean down = random.nextBoolean();
        return like("joint(" + d + ", " + column + ", " + row + ", " + down + ")",
            x.joint(d, column, row, down), y.joint(d, column, row, down));
    }

    private boolean stepSame() {
        int d = door();
        int e = random.nextBoolean() ? d : door();
        int how = number(0, 2);
        return like("same(" + d + ", " + e + ", " + how + ")", x.same(d, e, how), y.same(d, e, how));
    }

    private boolean stepWhy() {
        int d = door();
        int l = log();
        boolean near = random.nextInt(3) > 0 && y.place(d, l, 0) >= 0;
        int f = near ? y.place(d, l, 0) + random.nextInt(2) : number(0, small ? 1 : 8);
        int top = near ? y.place(d, l, 1) + random.nextInt(3) - 1 : number(0, 20);
        int left = near ? y.place(d, l, 2) + random.nextInt(3) - 1 : number(0, 12);
        if (random.nextInt(5) == 0) {
            f = -1 - random.nextInt(2);
        }
        return like("why(" + d + ", " + l + ", " + f + ", " + top + ", " + left + ")",
            x.why(d, l, f, top, left), y.why(d, l, f, top, left));
    }

    private boolean stepPlace() {
        int d = door();
        int l = log();
        int what = number(0, 2);
        return like("place(" + d + ", " + l + ", " + what + ")", x.place(d, l, what), y.place(d, l, what));
    }

    private boolean stepMake() {
        int d = door();
        int l = log();
        return like("make(" + d + ", " + l + ")", x.make(d, l), y.make(d, l))
            && like("of(" + d + ", 7)", x.of(d, 7), y.of(d, 7))
            && like("of(" + d + ", 8)", x.of(d, 8), y.of(d, 8))
            && like("of(" + d + ", 9)", x.of(d, 9), y.of(d, 9));
    }

    private boolean stepPlan() {
        boolean right = like("plan()", x.plan(), y.plan());
        for (int d = 0; d < 8; d++) {
            right &= like("planned(" + d + ")", x.planned(d), y.planned(d));
        }
        int far = number(0, 7);
        return right && like("planned(" + far + ")", x.planned(far), y.planned(far));
    }

    private boolean stepFree() {
        int d = door();
        return like("free(" + d + ")", x.free(d), y.free(d));
    }
}
