import java.util.ArrayList;
import java.util.List;

/**
 * The document once more, as plainly as can be: lists of boxes, every place tried, every plan tried.
 * It shares no code with VeneerDesk.
 */
final class PlainDesk {
    private static final class Wood {
        int n;
        int length;
        int wide;
        int grows;
        int tone;
        int darkens;
        /** first, last, x, y, wide, high, dx, dy */
        final List<int[]> flaws = new ArrayList<>();
        /** leaf, x, y, wide, high, owner */
        final List<int[]> cuts = new ArrayList<>();

        int width(int i) {
            int w = wide + i * grows;
            return w < 1 ? 1 : w;
        }
    }

    private static final class Plate {
        int[][] rows;
        int wide;
        int high;
        int tones;
        int owner;
        int[] made;
    }

    private static final class Refused extends Exception {
        private static final long serialVersionUID = 1L;
        final int kind;
        final int place;

        Refused(int kind, int place) {
            this.kind = kind;
            this.place = place;
        }
    }

    private final List<Integer> tape = new ArrayList<>();
    private final Wood[] logs = new Wood[3];
    private final Plate[] doors = new Plate[8];
    private int[] told = {-1, -1, -1, -1, -1, -1, -1, -1};
    private int faultKind;
    private int faultPlace = -1;
    private int owners;
    private int at;

    int feed(int... numbers) {
        if (tape.size() > 380) {
            return -1;
        }
        for (int number : numbers) {
            for (int k = 3; k >= 0; k--) {
                tape.add((int) ((number & 0xFFFFFFFFL) / (1L << 8 * k) % 256));
            }
        }
        return tape.size();
    }

    boolean end(int n) {
        if (n < 0 || n > tape.size()) {
            return false;
        }
        while (tape.size() > n) {
            tape.remove(tape.size() - 1);
        }
        return true;
    }

    boolean log(int l, int n, int length, int wide, int grows) {
        if (l < 0 || l > 2 || n < 1 || n > 12 || length < 10 || length > 60) {
            return false;
        }
        if (wide < 10 || wide > 40 || grows < -2 || grows > 2) {
            return false;
        }
        Wood wood = new Wood();
        wood.n = n;
        wood.length = length;
        wood.wide = wide;
        wood.grows = grows;
        logs[l] = wood;
        for (Plate plate : doors) {
            if (plate != null && plate.made != null && plate.made[0] == l) {
                plate.made = null;
            }
        }
        return true;
    }

    private Wood wood(int l) {
        return l < 0 || l > 2 ? null : logs[l];
    }

    private Plate plate(int d) {
        return d < 0 || d > 7 ? null : doors[d];
    }

    boolean tone(int l, int tone, int darkens) {
        Wood wood = wood(l);
        if (wood == null || tone < 0 || tone > 100 || darkens < -5 || darkens > 5) {
            return false;
        }
        wood.tone = tone;
        wood.darkens = darkens;
        return true;
    }

    int flaw(int l, int first, int x, int y, int wide, int high) {
        Wood wood = wood(l);
        if (wood == null || first < 0 || first >= wood.n || x < 0 || x > 100 || y < 0 || y > 100) {
            return -1;
        }
        if (wide < 1 || wide > 100 || high < 1 || high > 100 || wood.flaws.size() == 10) {
            return -1;
        }
        wood.flaws.add(new int[] {first, first, x, y, wide, high, 0, 0});
        return wood.flaws.size() - 1;
    }

    boolean drift(int l, int last, int dx, int dy) {
        Wood wood = wood(l);
        if (wood == null || wood.flaws.isEmpty() || last >= wood.n) {
            return false;
        }
        int[] flaw = wood.flaws.get(wood.flaws.size() - 1);
        if (last < flaw[0] || dx < -20 || dx > 20 || dy < -20 || dy > 20) {
            return false;
        }
        flaw[1] = last;
        flaw[6] = dx;
        flaw[7] = dy;
        return true;
    }

    private static boolean share(int x, int y, int wide, int high, int[] box) {
        int right = Math.min(x + wide, box[0] + box[2]);
        int bottom = Math.min(y + high, box[1] + box[3]);
        return Math.max(x, box[0]) < right && Math.max(y, box[1]) < bottom;
    }

    private static boolean flawed(int[] flaw, int i, int x, int y, int wide, int high) {
        if (i < flaw[0] || i > flaw[1]) {
            return false;
        }
        int steps = i - flaw[0];
        int[] box = {flaw[2] + steps * flaw[6], flaw[3] + steps * flaw[7], flaw[4], flaw[5]};
        return share(x, y, wide, high, box);
    }

    int leaf(int l, int i, int what) {
        Wood wood = wood(l);
        if (wood == null || i < 0 || i >= wood.n || what < 0 || what > 5 || what > 3 && i > 0) {
            return -1000;
        }
        int flaws = 0;
        for (int[] flaw : wood.flaws) {
            flaws += flawed(flaw, i, 0, 0, wood.width(i), wood.length) ? 1 : 0;
        }
        int cuts = 0;
        for (int[] cut : wood.cuts) {
            cuts += cut[0] == i ? 1 : 0;
        }
        int[] all = {wood.width(i), wood.tone + i * wood.darkens, flaws, cuts, wood.n, wood.length};
        return all[what];
    }

    int hit(int l, int i, int x, int y, int wide, int high) {
        Wood wood = wood(l);
        if (wood == null || i < 0 || i >= wood.n || wide < 1 || wide > 100 || high < 1 || high > 100) {
            return -2;
        }
        if (x < 0 || y < 0 || (long) x + wide > wood.width(i) || (long) y + high > wood.length) {
            return -3;
        }
        for (int k = 0; k < wood.flaws.size(); k++) {
            if (flawed(wood.flaws.get(k), i, x, y, wide, high)) {
                return k;
            }
        }
        return -1;
    }

    int door(int d, int wide, int high, int tones) {
        if (d < 0 || d > 7 || wide < 1 || wide > 60 || high < 1 || high > 60 || tones < 0 || tones > 200) {
            return -2;
        }
        try {
            at = 0;
            int[][] rows = row(0);
            if (peek() != -1) {
                throw new Refused(1, at);
            }
            faultKind = 0;
            faultPlace = -1;
            Plate plate = new Plate();
            plate.rows = rows;
            plate.wide = wide;
            plate.high = high;
            plate.tones = tones;
            plate.owner = owners++;
            doors[d] = plate;
            return rows.length * rows[0].length;
        } catch (Refused refused) {
            faultKind = refused.kind;
            faultPlace = refused.place;
            return -1;
        } finally {
            tape.clear();
        }
    }

    private int peek() {
        while (at < tape.size() && (tape.get(at) == 32 || tape.get(at) == 10)) {
            at++;
        }
        return at < tape.size() ? tape.get(at) : -1;
    }

    private static int[][] beside(int[][] a, int[][] b) {
        int[][] both = new int[a.length][a[0].length + b[0].length];
        for (int r = 0; r < a.length; r++) {
            for (int c = 0; c < both[0].length; c++) {
                both[r][c] = c < a[0].length ? a[r][c] : b[r][c - a[0].length];
            }
        }
        return both;
    }

    private int[][] row(int open) throws Refused {
        int[][] all = column(open);
        while (peek() == '|') {
            int sign = at++;
            int[][] next = column(open);
            if (next.length != all.length) {
                throw new Refused(2, sign);
            }
            all = beside(all, next);
            if (all[0].length > 8) {
                throw new Refused(3, sign);
            }
        }
        return all;
    }

    private int[][] column(int open) throws Refused {
        List<int[]> all = new ArrayList<>(List.of(part(open)));
        while (peek() == '/') {
            int sign = at++;
            int[][] next = part(open);
            if (next[0].length != all.get(0).length) {
                throw new Refused(2, sign);
            }
            all.addAll(List.of(next));
            if (all.size() > 8) {
                throw new Refused(3, sign);
            }
        }
        return all.toArray(new int[0][]);
    }

    private int[][] part(int open) throws Refused {
        int first = peek();
        int start = at++;
        if (first >= '0' && first <= '9') {
            if (first < '2' || peek() != 'x') {
                return new int[][] {{first - '0'}};
            }
            if (open == 6) {
                throw new Refused(1, start);
            }
            int sign = at++;
            int[][] one = part(open + 1);
            int[][] all = one;
            for (int n = '1'; n < first; n++) {
                all = beside(all, one);
            }
            if (all[0].length > 8) {
                throw new Refused(3, sign);
            }
            return all;
        }
        if (first == -1 || "(!~".indexOf(first) < 0 || open == 6) {
            throw new Refused(1, start);
        }
        if (first == '(') {
            int[][] inner = row(open + 1);
            if (peek() != ')') {
                throw new Refused(1, at);
            }
            at++;
            return inner;
        }
        return seen(part(open + 1), first == '!' ? 1 : 2);
    }

    private static int[][] seen(int[][] rows, int how) {
        int high = rows.length;
        int wide = rows[0].length;
        int[][] all = new int[high][wide];
        for (int r = 0; r < high; r++) {
            for (int c = 0; c < wide; c++) {
                int[] from = {rows[r][c], rows[r][wide - 1 - c] ^ 16, rows[high - 1 - r][wide - 1 - c] ^ 48};
                all[r][c] = from[how];
            }
        }
        return all;
    }

    int fault(int what) {
        return what == 0 ? faultKind : what == 1 ? faultPlace : -1;
    }

    int of(int d, int what) {
        Plate plate = plate(d);
        if (plate == null || what < 0 || what > 9) {
            return -1;
        }
        if (what > 5) {
            return plate.made == null ? -1 : plate.made[what - 6];
        }
        int[] joints = new int[3];
        int greatest = 0;
        for (int r = 0; r < plate.rows.length; r++) {
            for (int c = 0; c < plate.rows[0].length; c++) {
                greatest = Math.max(greatest, plate.rows[r][c] % 16);
                for (boolean down : new boolean[] {false, true}) {
                    int kind = joint(d, c, r, down);
                    if (kind >= 0) {
                        joints[kind]++;
                    }
                }
            }
        }
        int[] all = {plate.rows[0].length, plate.rows.length, greatest, joints[2], joints[1], joints[0]};
        return all[what];
    }

    int piece(int d, int column, int row) {
        Plate plate = plate(d);
        if (plate == null || row < 0 || row >= plate.rows.length || column < 0 || column >= plate.rows[0].length) {
            return -1;
        }
        return plate.rows[row][column];
    }

    int joint(int d, int column, int row, boolean down) {
        int a = piece(d, column, row);
        int b = a < 0 ? -1 : down ? piece(d, column, row + 1) : piece(d, column + 1, row);
        if (a < 0 || b < 0) {
            return -1;
        }
        int step = b % 16 - a % 16;
        boolean overA = a / 16 % 2 == 1;
        boolean overB = b / 16 % 2 == 1;
        boolean upsideA = a / 32 == 1;
        boolean upsideB = b / 32 == 1;
        if (down) {
            return step * step == 1 && overA == overB && upsideA != upsideB ? 2 : 0;
        }
        if (step * step != 1 || upsideA != upsideB) {
            return 0;
        }
        if (overA != overB) {
            return 2;
        }
        return step == 1 && !overA && !overB || step == -1 && overA && overB ? 1 : 0;
    }

    int same(int d, int e, int how) {
        Plate one = plate(d);
        Plate other = plate(e);
        if (one == null || other == null || how < 0 || how > 2) {
            return -1;
        }
        return java.util.Arrays.deepEquals(one.rows, seen(other.rows, how)) ? 1 : 0;
    }

    int why(int d, int l, int f, int y, int x) {
        Plate plate = plate(d);
        Wood wood = wood(l);
        return plate == null || wood == null ? -1 : why(plate, wood, f, y, x);
    }

    private static int why(Plate plate, Wood wood, long f, long y, long x) {
        int[] met = new int[10];
        int darkest = Integer.MAX_VALUE;
        int lightest = Integer.MIN_VALUE;
        for (int[] row : plate.rows) {
            for (int piece : row) {
                long leaf = f + piece % 16;
                long top = y + (long) plate.high * met[piece % 16]++;
                if (leaf < 0 || leaf >= wood.n) {
                    return 1;
                }
                int i = (int) leaf;
                if (x < 0 || top < 0 || x + plate.wide > wood.width(i) || top + plate.high > wood.length) {
                    return 2;
                }
                for (int[] flaw : wood.flaws) {
                    if (flawed(flaw, i, (int) x, (int) top, plate.wide, plate.high)) {
                        return 3;
                    }
                }
                for (int[] cut : wood.cuts) {
                    int[] box = {cut[1], cut[2], cut[3], cut[4]};
                    if (cut[0] == i && share((int) x, (int) top, plate.wide, plate.high, box)) {
                        return 4;
                    }
                }
                darkest = Math.min(darkest, wood.tone + i * wood.darkens);
                lightest = Math.max(lightest, wood.tone + i * wood.darkens);
            }
        }
        return lightest - darkest > plate.tones ? 5 : 0;
    }

    private static int[] find(Plate plate, Wood wood) {
        if (plate == null || wood == null) {
            return null;
        }
        for (int f = 0; f < wood.n; f++) {
            for (int y = 0; y < wood.length; y++) {
                for (int x = 0; x < 62; x++) {
                    if (why(plate, wood, f, y, x) == 0) {
                        return new int[] {f, y, x};
                    }
                }
            }
        }
        return null;
    }

    int place(int d, int l, int what) {
        int[] found = find(plate(d), wood(l));
        return found == null || what < 0 || what > 2 ? -1 : found[what];
    }

    int make(int d, int l) {
        Plate plate = plate(d);
        if (plate == null || plate.made != null) {
            return -1;
        }
        int[] found = find(plate, wood(l));
        if (found == null) {
            return -1;
        }
        cut(plate, wood(l), found);
        plate.made = new int[] {l, found[0], found[1], found[2]};
        return plate.rows.length * plate.rows[0].length;
    }

    private static void cut(Plate plate, Wood wood, int[] found) {
        int[] met = new int[10];
        for (int[] row : plate.rows) {
            for (int piece : row) {
                int top = found[1] + plate.high * met[piece % 16]++;
                wood.cuts.add(new int[] {found[0] + piece % 16, found[2], top, plate.wide, plate.high, plate.owner});
            }
        }
    }

    private static void uncut(Plate plate, Wood wood) {
        wood.cuts.removeIf(cut -> cut[5] == plate.owner);
    }

    boolean free(int d) {
        Plate plate = plate(d);
        if (plate == null || plate.made == null) {
            return false;
        }
        uncut(plate, logs[plate.made[0]]);
        plate.made = null;
        return true;
    }

    int plan() {
        List<Integer> waiting = new ArrayList<>();
        for (int d = 0; d < 8; d++) {
            if (doors[d] != null && doors[d].made == null) {
                waiting.add(d);
            }
        }
        int count = waiting.size();
        if (count == 0 || count > 3) {
            return -1;
        }
        int[] best = null;
        int fewest = 4;
        for (int number = 0; number < 27; number++) {
            int[] chosen = {number / 9, number / 3 % 3, number % 3};
            int different = (int) java.util.Arrays.stream(chosen, 3 - count, 3).distinct().count();
            if (number < Math.pow(3, count) && different < fewest && works(waiting, chosen)) {
                fewest = different;
                best = chosen;
            }
        }
        if (best == null) {
            return -2;
        }
        told = new int[] {-1, -1, -1, -1, -1, -1, -1, -1};
        for (int k = 0; k < count; k++) {
            told[waiting.get(k)] = best[3 - count + k];
        }
        return fewest;
    }

    private boolean works(List<Integer> waiting, int[] chosen) {
        int done = 0;
        boolean all = true;
        int start = 3 - waiting.size();
        while (all && done < waiting.size()) {
            Plate plate = doors[waiting.get(done)];
            Wood wood = logs[chosen[start + done]];
            int[] found = find(plate, wood);
            all = found != null;
            if (all) {
                cut(plate, wood, found);
                done++;
            }
        }
        // A lost CUT of an earlier drawing has another owner, so only what was tried goes.
        for (int k = 0; k < done; k++) {
            uncut(doors[waiting.get(k)], logs[chosen[start + k]]);
        }
        return all;
    }

    int planned(int d) {
        return d < 0 || d > 7 ? -1 : told[d];
    }
}
