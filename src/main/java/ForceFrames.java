import java.util.Arrays;

/** Frames of joints and bars, the stresses at rest in them, their faces, reciprocal and fold. */
public final class ForceFrames {
    public static final int BAD = -1, NOT = -2, FULL = -3, NONE = -4, NULL = -11, CAST = -12, INDEX = -13, SIZE = -14;

    private static final int FINE = 0;
    private static final int MOST_JOINTS = 6;
    private static final int MOST_BARS = 9;
    private static final int MOST_HALVES = 2 * MOST_BARS;
    private static final int WEIGHTS = 9;
    private static final int MOST_WEIGHT = 9;
    private static final int LAST_PLACE = 5;
    private static final int MOST_UNDONE = 6;
    private static final int MOST_TURNS = 40;
    private static final int MOST_LETTERS = 60;
    private static final int SHEETS = 4;
    private static final int LANES = 4;
    private static final int MOST_ITEMS = 24;
    private static final int MOST_NUMBER = 99;
    private static final int FIRST_FAULT = -20;
    private static final int TENTHS = 10;

    private final Frame frame = new Frame();
    private final Frame told = new Frame();
    private final Frame imageFrame = new Frame();
    private final History history = new History();
    private final History imageHistory = new History();
    private final Stresses stresses = new Stresses();
    private final Faces faces = new Faces();
    private final Tape tape = new Tape();
    private final Row[] rows = new Row[SHEETS];
    private boolean hasImage;
    private boolean settled;

    public ForceFrames() {
        for (int i = 0; i < SHEETS; i++) {
            rows[i] = new Row();
        }
    }

    // ---- 1 frames, stresses

    public int joint(int x, int y) {
        int no = frame.refuseJoint(x, y);
        if (no != FINE) {
            return no;
        }
        startStep();
        return frame.putJoint(x, y);
    }

    public int move(int j, int x, int y) {
        int no = frame.refuseMove(j, x, y);
        if (no != FINE) {
            return no;
        }
        startStep();
        frame.putAt(j, x, y);
        return frame.barsOf(j);
    }

    public int lose(int j) {
        if (!frame.hasJoint(j)) {
            return BAD;
        }
        startStep();
        frame.loseJoint(j);
        return frame.bars;
    }

    public int bar(int a, int b) {
        int no = frame.refuseBar(a, b);
        if (no != FINE) {
            return no;
        }
        startStep();
        return frame.putBar(a, b);
    }

    public int out(int k) {
        if (!frame.hasBar(k)) {
            return BAD;
        }
        startStep();
        frame.takeOut(k);
        return frame.bars;
    }

    public int weight(int j, int v) {
        int no = frame.refuseWeight(j, v);
        if (no != FINE) {
            return no;
        }
        startStep();
        int before = frame.weights[j];
        frame.weights[j] = v;
        return before + MOST_WEIGHT;
    }

    public int at(int j, int what) {
        if (!frame.hasJoint(j)) {
            return BAD;
        }
        switch (what) {
            case 0: return frame.x[j];
            case 1: return frame.y[j];
            case 2: return frame.barsOf(j);
            case 3: return frame.neighbours(j);
            default: return BAD;
        }
    }

    public int of(int k, int what) {
        if (!frame.hasBar(k)) {
            return BAD;
        }
        settle();
        switch (what) {
            case 0: return frame.low[k];
            case 1: return frame.high[k];
            case 2: return asBit(stresses.isLeading(k));
            case 3: return asBit(stresses.isNeeded(k));
            default: return BAD;
        }
    }

    public int count(int what) {
        settle();
        switch (what) {
            case 0: return frame.joints;
            case 1: return frame.bars;
            case 2: return stresses.leads;
            case 3: return asBit(isStiff());
            case 4: return asBit(frame.isWhole());
            case 5: return faces.total;
            case 6: return faces.outer;
            case 7: return frame.sumOfWeights() + WEIGHTS * MOST_WEIGHT;
            case 8: return history.known;
            default: return BAD;
        }
    }

    public long stress(int j, int k, int what) {
        settle();
        if (j < 0 || j >= stresses.leads || !frame.hasBar(k) || !isPart(what)) {
            return BAD;
        }
        return partOf(stresses.numbers[j * MOST_BARS + k], stresses.below, what);
    }

    public long pull(int k, int what) {
        if (!frame.hasBar(k) || !isPart(what)) {
            return BAD;
        }
        settle();
        return partOf(stresses.sums[k], stresses.below, what);
    }

    public long fail(int c, int what) {
        if (c < 0 || c > TENTHS || what < 0 || what > 1) {
            return BAD;
        }
        settle();
        long above = isStiff() ? stiffTenths(c) : 0;
        return partOf(above, power(TENTHS, frame.bars), what);
    }

    // ---- 2 faces

    public int next(int h) {
        if (!frame.hasHalf(h)) {
            return BAD;
        }
        settle();
        return faces.following[h];
    }

    public int face(int f, int what) {
        settle();
        if (!faces.has(f)) {
            return BAD;
        }
        switch (what) {
            case 0: return faces.size[f];
            case 1: return Math.abs(faces.area[f]);
            case 2: return faces.least[f];
            default: return BAD;
        }
    }

    public int round(int f, int i) {
        settle();
        if (!faces.has(f) || i < 0 || i >= faces.size[f]) {
            return BAD;
        }
        int h = faces.least[f];
        for (int step = 0; step < i; step++) {
            h = faces.following[h];
        }
        return h;
    }

    public int beside(int h) {
        if (!frame.hasHalf(h)) {
            return BAD;
        }
        settle();
        return faces.faceOf[h];
    }

    public long point(int f, int axis, int what) {
        settle();
        if (!faces.has(f) || axis < 0 || axis > 1 || !isPart(what)) {
            return BAD;
        }
        if (faces.outer < 0) {
            return NONE;
        }
        return partOf(axis == 0 ? faces.pointX[f] : faces.pointY[f], stresses.below, what);
    }

    public long plane(int f, int which, int what) {
        settle();
        if (!faces.has(f) || which < 0 || which > 2 || !isPart(what)) {
            return BAD;
        }
        if (faces.outer < 0) {
            return NONE;
        }
        return partOf(faces.planeNumber(f, which), stresses.below, what);
    }

    public long height(int j, int what) {
        if (!frame.hasJoint(j) || !isPart(what)) {
            return BAD;
        }
        settle();
        if (faces.outer < 0) {
            return NONE;
        }
        return partOf(faces.heightAt(frame, j), stresses.below, what);
    }

    public long corner(int j, int i, int axis, int what) {
        if (!frame.hasJoint(j) || i < 0 || i > frame.barsOf(j) || axis < 0 || axis > 1 || !isPart(what)) {
            return BAD;
        }
        settle();
        long above = 0;
        for (int h = 0; h < 2 * frame.bars; h++) {
            if (frame.startOf(h) == j && faces.turn[h] < i) {
                above += stresses.sums[h / 2] * (axis == 0 ? frame.stepX(h) : frame.stepY(h));
            }
        }
        return partOf(above, stresses.below, what);
    }

    // ---- 3 what is done

    public int type(int letter) {
        if (letter < 32 || letter > 126) {
            return BAD;
        }
        return tape.put(letter) ? tape.length : FULL;
    }

    public int read() {
        boolean good = tape.tells(told);
        tape.length = 0;
        if (!good) {
            return FIRST_FAULT - tape.place;
        }
        startStep();
        frame.takeFigure(told);
        return frame.bars;
    }

    public int drift(int n) {
        if (n < 1 || n > MOST_TURNS) {
            return BAD;
        }
        for (int turn = 0; turn < n; turn++) {
            startStep();
            driftOnce();
        }
        return frame.bars;
    }

    public int undo() {
        if (history.known == 0) {
            return NONE;
        }
        history.takeBack(frame);
        settled = false;
        return history.known;
    }

    public int seed(int v) {
        if (v < 0) {
            return BAD;
        }
        int before = frame.draw;
        frame.draw = v;
        return before;
    }

    public int image() {
        imageFrame.takeAll(frame);
        imageHistory.takeAll(history);
        hasImage = true;
        return 1;
    }

    public int restore() {
        if (!hasImage) {
            return NONE;
        }
        frame.takeAll(imageFrame);
        history.takeAll(imageHistory);
        settled = false;
        return 1;
    }

    // ---- sheets

    public int what(int sheet, int lane, int i) {
        int no = refuseRow(sheet, lane);
        if (no != FINE) {
            return no;
        }
        Row row = rows[sheet];
        if (!row.holds(i, frame.bars)) {
            return INDEX;
        }
        if (!row.isSmall(i, frame.bars)) {
            return NOT;
        }
        settle();
        return kindOf(row.items, i);
    }

    public int film(int sheet, int lane, int i) {
        int no = refuseRow(sheet, lane);
        if (no != FINE) {
            return no;
        }
        Row row = rows[sheet];
        if (!row.holds(i, frame.bars)) {
            return INDEX;
        }
        settle();
        for (int k = 0; k < frame.bars; k++) {
            row.items[i + k] = stresses.signOf(k);
        }
        return frame.bars;
    }

    public int sheet(int sheet, int lane, int n) {
        if (!isSheet(sheet) || !isLane(lane) || n > MOST_ITEMS) {
            return BAD;
        }
        if (n < 0) {
            return SIZE;
        }
        rows[sheet].begin(lane, n);
        return n;
    }

    public int drop(int sheet) {
        if (!isSheet(sheet)) {
            return BAD;
        }
        if (!rows[sheet].held) {
            return NULL;
        }
        rows[sheet].held = false;
        return rows[sheet].length;
    }

    public int item(int sheet, int lane, int i, long v) {
        int no = refuseRow(sheet, lane);
        if (no != FINE) {
            return no;
        }
        if (!rows[sheet].holds(i, 1)) {
            return INDEX;
        }
        rows[sheet].items[i] = narrowed(lane, v);
        return 1;
    }

    public int copy(int from, int i, int to, int j, int n) {
        if (!isSheet(from) || !isSheet(to)) {
            return BAD;
        }
        Row source = rows[from];
        Row target = rows[to];
        if (!source.held || !target.held) {
            return NULL;
        }
        if (source.lane != target.lane) {
            return CAST;
        }
        if (!source.holds(i, n) || !target.holds(j, n)) {
            return INDEX;
        }
        System.arraycopy(source.items, i, target.items, j, n);
        return n;
    }

    // ---- what the calls share

    private void startStep() {
        history.remember(frame);
        settled = false;
    }

    private void settle() {
        if (settled) {
            return;
        }
        stresses.solve(frame);
        faces.walk(frame);
        faces.lift(frame, stresses.sums);
        settled = true;
    }

    private void driftOnce() {
        frame.draw = (int) ((frame.draw * 1103515245L + 12345L) & 0x7fffffffL);
        int v = frame.draw / 65536;
        int p = v / 8 % 6;
        int q = v / 64 % 6;
        int r = v / 512 % 6;
        switch (v % 8) {
            case 0:
                if (frame.refuseJoint(p, q) == FINE) {
                    frame.putJoint(p, q);
                }
                break;
            case 5:
                if (frame.refuseMove(p, q, r) == FINE) {
                    frame.putAt(p, q, r);
                }
                break;
            case 6:
                if (frame.hasBar(p)) {
                    frame.takeOut(p);
                }
                break;
            case 7:
                if (frame.refuseWeight(p, q + r - 5) == FINE) {
                    frame.weights[p] = q + r - 5;
                }
                break;
            default:
                if (frame.refuseBar(p, q) == FINE) {
                    frame.putBar(p, q);
                }
                break;
        }
    }

    private boolean isStiff() {
        return frame.joints >= 2 && frame.bars - stresses.leads == 2 * frame.joints - 3;
    }

    /**
     * Of a STIFF frame: 10 to the power of BARS times FAIL. What is left of it is STIFF just if the
     * failed BARS have independent columns in the STRESSES. A STIFF frame has at most 2 STRESSES (a
     * PLAIN one has at most 3 n - 6 BARS, and 9), so never more than 2 BARS may fail.
     */
    private long stiffTenths(int c) {
        int held = TENTHS - c;
        int bars = frame.bars;
        long above = power(held, bars);
        if (stresses.leads >= 1 && bars >= 1) {
            above += stresses.freeBars() * c * power(held, bars - 1);
        }
        if (stresses.leads >= 2 && bars >= 2) {
            above += stresses.freePairs() * c * c * power(held, bars - 2);
        }
        return above;
    }

    private int kindOf(long[] items, int first) {
        boolean noneIsZero = true;
        boolean noneIsBelow = true;
        for (int k = 0; k < frame.bars; k++) {
            noneIsZero = noneIsZero && items[first + k] != 0;
            noneIsBelow = noneIsBelow && items[first + k] >= 0;
        }
        return asBit(isAtRest(items, first))
            + 2 * asBit(noneIsZero)
            + 4 * asBit(noneIsBelow)
            + 8 * asBit(stresses.isMultiple(items, first));
    }

    private boolean isAtRest(long[] items, int first) {
        for (int j = 0; j < frame.joints; j++) {
            long sumX = 0;
            long sumY = 0;
            for (int h = 0; h < 2 * frame.bars; h++) {
                if (frame.startOf(h) == j) {
                    sumX += items[first + h / 2] * frame.stepX(h);
                    sumY += items[first + h / 2] * frame.stepY(h);
                }
            }
            if (sumX != 0 || sumY != 0) {
                return false;
            }
        }
        return true;
    }

    private int refuseRow(int sheet, int lane) {
        if (!isSheet(sheet) || !isLane(lane)) {
            return BAD;
        }
        if (!rows[sheet].held) {
            return NULL;
        }
        return rows[sheet].lane == lane ? FINE : CAST;
    }

    private static boolean isSheet(int sheet) {
        return sheet >= 0 && sheet < SHEETS;
    }

    private static boolean isLane(int lane) {
        return lane >= 0 && lane < LANES;
    }

    private static boolean isPart(int what) {
        return what >= 0 && what <= 2;
    }

    private static int asBit(boolean is) {
        return is ? 1 : 0;
    }

    private static long narrowed(int lane, long v) {
        switch (lane) {
            case 0: return (byte) v;
            case 1: return (short) v;
            case 2: return (int) v;
            default: return v;
        }
    }

    private static long power(long base, int times) {
        long product = 1;
        for (int i = 0; i < times; i++) {
            product *= base;
        }
        return product;
    }

    private static long partOf(long above, long below, int what) {
        if (above == 0 || below == 0) {
            return what == 1 ? 1 : 0;
        }
        if (what == 2) {
            return (above < 0) == (below < 0) ? 1 : 2;
        }
        long common = commonDivisor(Math.abs(above), Math.abs(below));
        return Math.abs(what == 0 ? above : below) / common;
    }

    /** Of two numbers above 0; Euclid's way takes fewer than 100 steps for any longs. */
    private static long commonDivisor(long p, long q) {
        for (int i = 0; i < 200 && q != 0; i++) {
            long left = p % q;
            p = q;
            q = left;
        }
        return Math.max(p, 1);
    }

    /** All that a step may change: JOINTS, BARS, WEIGHTS, THE DRAW. */
    private static final class Frame {
        int joints;
        int bars;
        int draw = 1;
        final int[] x = new int[MOST_JOINTS];
        final int[] y = new int[MOST_JOINTS];
        final int[] low = new int[MOST_BARS];
        final int[] high = new int[MOST_BARS];
        final int[] weights = new int[WEIGHTS];

        Frame() {
            weights[0] = 1;
        }

        void takeAll(Frame other) {
            takeFigure(other);
            draw = other.draw;
            System.arraycopy(other.weights, 0, weights, 0, WEIGHTS);
        }

        void takeFigure(Frame other) {
            joints = other.joints;
            bars = other.bars;
            System.arraycopy(other.x, 0, x, 0, MOST_JOINTS);
            System.arraycopy(other.y, 0, y, 0, MOST_JOINTS);
            System.arraycopy(other.low, 0, low, 0, MOST_BARS);
            System.arraycopy(other.high, 0, high, 0, MOST_BARS);
        }

        boolean hasJoint(int j) {
            return j >= 0 && j < joints;
        }

        boolean hasBar(int k) {
            return k >= 0 && k < bars;
        }

        boolean hasHalf(int h) {
            return h >= 0 && h < 2 * bars;
        }

        int startOf(int h) {
            return h % 2 == 0 ? low[h / 2] : high[h / 2];
        }

        int endOf(int h) {
            return h % 2 == 0 ? high[h / 2] : low[h / 2];
        }

        int stepX(int h) {
            return x[endOf(h)] - x[startOf(h)];
        }

        int stepY(int h) {
            return y[endOf(h)] - y[startOf(h)];
        }

        int barsOf(int j) {
            int number = 0;
            for (int k = 0; k < bars; k++) {
                if (low[k] == j || high[k] == j) {
                    number++;
                }
            }
            return number;
        }

        int neighbours(int j) {
            int set = 0;
            for (int h = 0; h < 2 * bars; h++) {
                if (startOf(h) == j) {
                    set |= 1 << endOf(h);
                }
            }
            return set;
        }

        int sumOfWeights() {
            int sum = 0;
            for (int j = 0; j < WEIGHTS; j++) {
                sum += weights[j];
            }
            return sum;
        }

        boolean isWhole() {
            int reached = 1;
            for (int pass = 0; pass < joints; pass++) {
                for (int h = 0; h < 2 * bars; h++) {
                    if ((reached >> startOf(h) & 1) == 1) {
                        reached |= 1 << endOf(h);
                    }
                }
            }
            return bars > 0 && reached == (1 << joints) - 1;
        }

        int refuseJoint(int px, int py) {
            if (!isPlace(px) || !isPlace(py)) {
                return BAD;
            }
            if (isTaken(px, py) || isUnderBar(px, py)) {
                return NOT;
            }
            return joints < MOST_JOINTS ? FINE : FULL;
        }

        int refuseMove(int j, int px, int py) {
            if (!hasJoint(j) || !isPlace(px) || !isPlace(py)) {
                return BAD;
            }
            return isTaken(px, py) || !isPlainWith(j, px, py) ? NOT : FINE;
        }

        int refuseBar(int a, int b) {
            if (!hasJoint(a) || !hasJoint(b) || a == b) {
                return BAD;
            }
            if ((neighbours(a) >> b & 1) == 1 || !isClear(a, b)) {
                return NOT;
            }
            return bars < MOST_BARS ? FINE : FULL;
        }

        int refuseWeight(int j, int v) {
            if (j < 0 || j >= WEIGHTS || v < -MOST_WEIGHT || v > MOST_WEIGHT) {
                return BAD;
            }
            return weights[j] == v ? NOT : FINE;
        }

        /** Only of what refuseJoint finds FINE; so of the others below. */
        int putJoint(int px, int py) {
            x[joints] = px;
            y[joints] = py;
            joints++;
            return joints - 1;
        }

        void putAt(int j, int px, int py) {
            x[j] = px;
            y[j] = py;
        }

        int putBar(int a, int b) {
            low[bars] = Math.min(a, b);
            high[bars] = Math.max(a, b);
            bars++;
            return bars - 1;
        }

        void takeOut(int k) {
            bars--;
            for (int i = k; i < bars; i++) {
                low[i] = low[i + 1];
                high[i] = high[i + 1];
            }
        }

        void loseJoint(int j) {
            for (int k = bars - 1; k >= 0; k--) {
                if (low[k] == j || high[k] == j) {
                    takeOut(k);
                }
            }
            for (int k = 0; k < bars; k++) {
                low[k] -= asBit(low[k] > j);
                high[k] -= asBit(high[k] > j);
            }
            joints--;
            for (int i = j; i < joints; i++) {
                x[i] = x[i + 1];
                y[i] = y[i + 1];
            }
        }

        boolean isTaken(int px, int py) {
            for (int j = 0; j < joints; j++) {
                if (x[j] == px && y[j] == py) {
                    return true;
                }
            }
            return false;
        }

        private static boolean isPlace(int number) {
            return number >= 0 && number <= LAST_PLACE;
        }

        private boolean isUnderBar(int px, int py) {
            for (int k = 0; k < bars; k++) {
                if (isBetween(low[k], high[k], px, py)) {
                    return true;
                }
            }
            return false;
        }

        private boolean isPlainWith(int j, int px, int py) {
            int oldX = x[j];
            int oldY = y[j];
            putAt(j, px, py);
            boolean plain = true;
            for (int k = 0; k < bars; k++) {
                plain = plain && isClear(low[k], high[k]);
            }
            putAt(j, oldX, oldY);
            return plain;
        }

        /**
         * Two BARS with a JOINT in common need no test of their own, since a side of it is 0: if they
         * have more in common, the end of one lies on the other.
         */
        private boolean isClear(int a, int b) {
            for (int j = 0; j < joints; j++) {
                if (isBetween(a, b, x[j], y[j])) {
                    return false;
                }
            }
            for (int k = 0; k < bars; k++) {
                int c = low[k];
                int d = high[k];
                if (side(a, b, c) * side(a, b, d) < 0 && side(c, d, a) * side(c, d, b) < 0) {
                    return false;
                }
            }
            return true;
        }

        private boolean isBetween(int a, int b, int px, int py) {
            int ax = x[a] - px;
            int ay = y[a] - py;
            int bx = x[b] - px;
            int by = y[b] - py;
            return ax * by - ay * bx == 0 && ax * bx + ay * by < 0;
        }

        private int side(int a, int b, int c) {
            return (x[b] - x[a]) * (y[c] - y[a]) - (y[b] - y[a]) * (x[c] - x[a]);
        }
    }

    /** Frames as they were ahead of the latest steps, in a ring so that none is made anew. */
    private static final class History {
        final Frame[] ring = new Frame[MOST_UNDONE];
        int known;
        int end;

        History() {
            for (int i = 0; i < MOST_UNDONE; i++) {
                ring[i] = new Frame();
            }
        }

        void remember(Frame frame) {
            ring[end].takeAll(frame);
            end = (end + 1) % MOST_UNDONE;
            known = Math.min(known + 1, MOST_UNDONE);
        }

        /** Only where one is known. */
        void takeBack(Frame frame) {
            end = (end + MOST_UNDONE - 1) % MOST_UNDONE;
            known--;
            frame.takeAll(ring[end]);
        }

        void takeAll(History other) {
            known = other.known;
            end = other.end;
            for (int i = 0; i < MOST_UNDONE; i++) {
                ring[i].takeAll(other.ring[i]);
            }
        }
    }

    /** The STRESSES of a frame, all above one number below, so that whole numbers do. */
    private static final class Stresses {
        int leads;
        int bars;
        int equations;
        long below = 1;
        final long[] numbers = new long[MOST_BARS * MOST_BARS];
        final long[] sums = new long[MOST_BARS];
        private final long[] grid = new long[2 * MOST_JOINTS * MOST_BARS];
        private final int[] pivotRow = new int[MOST_BARS];

        void solve(Frame frame) {
            bars = frame.bars;
            equations = 2 * frame.joints;
            fillGrid(frame);
            reduce();
            listStresses();
            addUp(frame.weights);
        }

        boolean isLeading(int k) {
            return pivotRow[k] < 0;
        }

        boolean isNeeded(int k) {
            for (int j = 0; j < leads; j++) {
                if (numbers[j * MOST_BARS + k] != 0) {
                    return false;
                }
            }
            return true;
        }

        long freeBars() {
            long free = 0;
            for (int k = 0; k < bars; k++) {
                free += asBit(!isNeeded(k));
            }
            return free;
        }

        /** Of a frame of 2 STRESSES: pairs of BARS whose columns are independent. */
        long freePairs() {
            long free = 0;
            for (int k = 0; k < bars; k++) {
                for (int i = 0; i < k; i++) {
                    long straight = numbers[i] * numbers[MOST_BARS + k];
                    long across = numbers[k] * numbers[MOST_BARS + i];
                    free += asBit(straight != across);
                }
            }
            return free;
        }

        int signOf(int k) {
            if (sums[k] == 0) {
                return 0;
            }
            return (sums[k] < 0) == (below < 0) ? 1 : -1;
        }

        /** The numbers of a row by those of THE STRESS are alike if they are so beside one that isn't 0. */
        boolean isMultiple(long[] items, int first) {
            int known = 0;
            for (int k = 0; k < bars; k++) {
                if (sums[k] != 0) {
                    known = k;
                }
            }
            for (int k = 0; k < bars; k++) {
                if (items[first + k] * sums[known] != items[first + known] * sums[k]) {
                    return false;
                }
                if (sums[k] == 0 && items[first + k] != 0) {
                    return false;
                }
            }
            return true;
        }

        private void fillGrid(Frame frame) {
            Arrays.fill(grid, 0L);
            for (int h = 0; h < 2 * bars; h++) {
                int row = 2 * frame.startOf(h);
                grid[row * MOST_BARS + h / 2] = frame.stepX(h);
                grid[(row + 1) * MOST_BARS + h / 2] = frame.stepY(h);
            }
        }

        /**
         * From the last BAR down, since a BAR LEADS if its column comes of those behind it. Each number
         * of the grid stays a minor of the first one, below 10 to the power of 9, so that each division
         * leaves nothing over and no product is too great for a long.
         */
        private void reduce() {
            int pivots = 0;
            below = 1;
            for (int k = bars - 1; k >= 0; k--) {
                int row = rowWith(k, pivots);
                pivotRow[k] = -1;
                if (row >= 0) {
                    swapRows(row, pivots);
                    clearColumn(k, pivots);
                    below = grid[pivots * MOST_BARS + k];
                    pivotRow[k] = pivots;
                    pivots++;
                }
            }
        }

        private int rowWith(int k, int first) {
            for (int row = first; row < equations; row++) {
                if (grid[row * MOST_BARS + k] != 0) {
                    return row;
                }
            }
            return -1;
        }

        private void swapRows(int one, int other) {
            for (int k = 0; k < bars; k++) {
                long number = grid[one * MOST_BARS + k];
                grid[one * MOST_BARS + k] = grid[other * MOST_BARS + k];
                grid[other * MOST_BARS + k] = number;
            }
        }

        private void clearColumn(int k, int pivot) {
            long lead = grid[pivot * MOST_BARS + k];
            for (int row = 0; row < equations; row++) {
                long factor = grid[row * MOST_BARS + k];
                for (int i = 0; i < bars && row != pivot && below != 0; i++) {
                    int cell = row * MOST_BARS + i;
                    grid[cell] = (lead * grid[cell] - factor * grid[pivot * MOST_BARS + i]) / below;
                }
            }
        }

        private void listStresses() {
            leads = 0;
            for (int lead = 0; lead < bars; lead++) {
                if (isLeading(lead)) {
                    for (int k = 0; k < bars; k++) {
                        numbers[leads * MOST_BARS + k] = numberBeside(lead, k);
                    }
                    leads++;
                }
            }
        }

        private long numberBeside(int lead, int k) {
            if (isLeading(k)) {
                return k == lead ? below : 0;
            }
            return -grid[pivotRow[k] * MOST_BARS + lead];
        }

        private void addUp(int[] weights) {
            for (int k = 0; k < bars; k++) {
                sums[k] = 0;
                for (int j = 0; j < leads; j++) {
                    sums[k] += weights[j] * numbers[j * MOST_BARS + k];
                }
            }
        }
    }

    /** HALF BARS around JOINTS, the FACES that they walk round, their POINTS and planes. */
    private static final class Faces {
        int total;
        int outer = NONE;
        final int[] turn = new int[MOST_HALVES];
        final int[] following = new int[MOST_HALVES];
        final int[] faceOf = new int[MOST_HALVES];
        final int[] least = new int[MOST_HALVES];
        final int[] size = new int[MOST_HALVES];
        final int[] area = new int[MOST_HALVES];
        final long[] pointX = new long[MOST_HALVES];
        final long[] pointY = new long[MOST_HALVES];
        final long[] level = new long[MOST_HALVES];
        private final boolean[] placed = new boolean[MOST_HALVES];

        boolean has(int f) {
            return f >= 0 && f < total;
        }

        /** Each step of A, B is one of the POINT turned a quarter, so the POINT tells them. */
        long planeNumber(int f, int which) {
            switch (which) {
                case 0: return -pointY[f];
                case 1: return pointX[f];
                default: return level[f];
            }
        }

        long heightAt(Frame frame, int j) {
            for (int h = 0; h < 2 * frame.bars; h++) {
                if (frame.startOf(h) == j) {
                    int f = faceOf[h];
                    return pointX[f] * frame.y[j] - pointY[f] * frame.x[j] + level[f];
                }
            }
            return 0;
        }

        void walk(Frame frame) {
            int halves = 2 * frame.bars;
            for (int h = 0; h < halves; h++) {
                turn[h] = turnOf(frame, h);
                faceOf[h] = -1;
            }
            for (int h = 0; h < halves; h++) {
                following[h] = clockwiseOf(frame, h ^ 1);
            }
            total = 0;
            for (int h = 0; h < halves; h++) {
                if (faceOf[h] < 0) {
                    walkRound(frame, h);
                }
            }
            outer = frame.isWhole() ? flatFace() : NONE;
        }

        void lift(Frame frame, long[] sums) {
            if (outer < 0) {
                return;
            }
            Arrays.fill(pointX, 0L);
            Arrays.fill(pointY, 0L);
            Arrays.fill(level, 0L);
            for (int f = 0; f < total; f++) {
                placed[f] = f == outer;
            }
            for (int pass = 0; pass < total; pass++) {
                for (int h = 0; h < 2 * frame.bars; h++) {
                    if (placed[faceOf[h ^ 1]] && !placed[faceOf[h]]) {
                        placeBeside(frame, h, sums[h / 2]);
                    }
                }
            }
        }

        private void placeBeside(Frame frame, int h, long number) {
            int known = faceOf[h ^ 1];
            int fresh = faceOf[h];
            int start = frame.startOf(h);
            long forceX = number * frame.stepX(h);
            long forceY = number * frame.stepY(h);
            pointX[fresh] = pointX[known] + forceX;
            pointY[fresh] = pointY[known] + forceY;
            level[fresh] = level[known] + forceY * frame.x[start] - forceX * frame.y[start];
            placed[fresh] = true;
        }

        private int flatFace() {
            for (int f = 0; f < total; f++) {
                if (area[f] <= 0) {
                    return f;
                }
            }
            return NONE;
        }

        private void walkRound(Frame frame, int start) {
            int f = total;
            total++;
            least[f] = start;
            size[f] = 0;
            area[f] = 0;
            int h = start;
            for (int i = 0; i < 2 * frame.bars && faceOf[h] < 0; i++) {
                int p = frame.startOf(h);
                int q = frame.endOf(h);
                faceOf[h] = f;
                size[f]++;
                area[f] += frame.x[p] * frame.y[q] - frame.x[q] * frame.y[p];
                h = following[h];
            }
        }

        private static int turnOf(Frame frame, int h) {
            int ahead = 0;
            for (int g = 0; g < 2 * frame.bars; g++) {
                if (frame.startOf(g) == frame.startOf(h) && isAhead(frame, g, h)) {
                    ahead++;
                }
            }
            return ahead;
        }

        private static boolean isAhead(Frame frame, int g, int h) {
            int halfG = halfTurn(frame.stepX(g), frame.stepY(g));
            int halfH = halfTurn(frame.stepX(h), frame.stepY(h));
            if (halfG != halfH) {
                return halfG < halfH;
            }
            return frame.stepX(g) * frame.stepY(h) - frame.stepY(g) * frame.stepX(h) > 0;
        }

        private static int halfTurn(int stepX, int stepY) {
            return stepY > 0 || stepY == 0 && stepX > 0 ? 0 : 1;
        }

        private int clockwiseOf(Frame frame, int back) {
            int hub = frame.startOf(back);
            int around = Math.max(frame.barsOf(hub), 1);
            int wanted = (turn[back] + around - 1) % around;
            for (int h = 0; h < 2 * frame.bars; h++) {
                if (frame.startOf(h) == hub && turn[h] == wanted) {
                    return h;
                }
            }
            return back;
        }
    }

    /** Letters told one by one, and the walk over them that finds a frame or a FAULT. */
    private static final class Tape {
        private static final int END = 0;

        final char[] letters = new char[MOST_LETTERS];
        int length;
        int place;

        boolean put(int letter) {
            if (length >= MOST_LETTERS) {
                return false;
            }
            letters[length] = (char) letter;
            length++;
            return true;
        }

        /** If it does not tell a frame, the place is that of the FAULT. */
        boolean tells(Frame told) {
            place = 0;
            told.joints = 0;
            told.bars = 0;
            if (!tellsJoints(told)) {
                return false;
            }
            if (letterHere() == ';') {
                place++;
                if (!tellsBars(told)) {
                    return false;
                }
            }
            return letterHere() == END;
        }

        private boolean tellsJoints(Frame told) {
            for (int i = 0; i <= MOST_JOINTS; i++) {
                if (!tellsJoint(told)) {
                    return false;
                }
                if (letterHere() != ',') {
                    return true;
                }
                place++;
            }
            return false;
        }

        private boolean tellsJoint(Frame told) {
            int px = figureHere(LAST_PLACE);
            if (px < 0 || told.joints >= MOST_JOINTS) {
                return false;
            }
            place++;
            int py = figureHere(LAST_PLACE);
            if (py < 0 || told.isTaken(px, py)) {
                return false;
            }
            place++;
            told.putJoint(px, py);
            return true;
        }

        private boolean tellsBars(Frame told) {
            for (int i = 0; i <= MOST_BARS; i++) {
                if (!tellsBar(told)) {
                    return false;
                }
                if (letterHere() != ',') {
                    return true;
                }
                place++;
            }
            return false;
        }

        private boolean tellsBar(Frame told) {
            int a = figureHere(told.joints - 1);
            if (a < 0 || told.bars >= MOST_BARS) {
                return false;
            }
            place++;
            int b = figureHere(told.joints - 1);
            if (b < 0 || told.refuseBar(a, b) != FINE) {
                return false;
            }
            place++;
            told.putBar(a, b);
            return true;
        }

        private int figureHere(int most) {
            int figure = letterHere() - '0';
            return figure >= 0 && figure <= most ? figure : -1;
        }

        private int letterHere() {
            while (place < length && letters[place] == ' ') {
                place++;
            }
            return place < length ? letters[place] : END;
        }
    }

    /** What a SHEET holds; items stay as longs, already cut to the LANE. */
    private static final class Row {
        boolean held;
        int lane;
        int length;
        final long[] items = new long[MOST_ITEMS];

        void begin(int newLane, int newLength) {
            held = true;
            lane = newLane;
            length = newLength;
            Arrays.fill(items, 0L);
        }

        boolean holds(int first, int number) {
            return number >= 0 && first >= 0 && first <= length - number;
        }

        boolean isSmall(int first, int number) {
            for (int i = 0; i < number; i++) {
                if (items[first + i] < -MOST_NUMBER || items[first + i] > MOST_NUMBER) {
                    return false;
                }
            }
            return true;
        }
    }
}
