import java.math.BigInteger;
import java.util.ArrayDeque;
import java.util.ArrayList;
import java.util.Arrays;
import java.util.List;

/**
 * The document once more, by other ways than the program's: fractions of any size, STRESSES by
 * reducing all solutions, angles by atan2, FAIL by all sets of bars.
 */
final class Model {
    static final int BAD = -1, NOT = -2, FULL = -3, NONE = -4, NULL = -11, CAST = -12, INDEX = -13, SIZE = -14;

    /** A fraction in lowest terms, above 0 below the line. */
    record Q(BigInteger above, BigInteger below) {
        static final Q ZERO = Q.of(0);

        static Q of(long v) {
            return new Q(BigInteger.valueOf(v), BigInteger.ONE);
        }

        static Q by(BigInteger a, BigInteger b) {
            BigInteger g = a.gcd(b);
            if (b.signum() < 0) {
                g = g.negate();
            }
            return new Q(a.divide(g), b.divide(g));
        }

        Q plus(Q o) {
            return by(above.multiply(o.below).add(o.above.multiply(below)), below.multiply(o.below));
        }

        Q minus(Q o) {
            return plus(o.times(of(-1)));
        }

        Q times(Q o) {
            return by(above.multiply(o.above), below.multiply(o.below));
        }

        Q times(long o) {
            return times(of(o));
        }

        Q over(Q o) {
            return by(above.multiply(o.below), below.multiply(o.above));
        }

        boolean isZero() {
            return above.signum() == 0;
        }

        long part(int what) {
            if (what == 0) {
                return above.abs().longValueExact();
            }
            if (what == 1) {
                return below.longValueExact();
            }
            return above.signum() == 0 ? 0 : above.signum() > 0 ? 1 : 2;
        }
    }

    /** What a step may change, never changed itself. */
    record State(List<List<Integer>> joints, List<List<Integer>> bars, List<Integer> weights, long draw) {
    }

    private State now = new State(List.of(), List.of(), List.of(1, 0, 0, 0, 0, 0, 0, 0, 0), 1);
    private List<State> known = new ArrayList<>();
    private State imageState;
    private List<State> imageKnown;
    private String tape = "";
    private final long[][] sheets = new long[4][];
    private final int[] lanes = new int[4];

    // ---- frames

    private int n() {
        return now.joints.size();
    }

    private int m() {
        return now.bars.size();
    }

    private static boolean in(int v, int least, int most) {
        return least <= v && v <= most;
    }

    private void step(State then) {
        known.add(now);
        if (known.size() > 6) {
            known.remove(0);
        }
        now = then;
    }

    private static <T> List<T> with(List<T> all, T more) {
        List<T> list = new ArrayList<>(all);
        list.add(more);
        return list;
    }

    private static int turn(List<Integer> p, List<Integer> q, List<Integer> r) {
        return Integer.signum((q.get(0) - p.get(0)) * (r.get(1) - p.get(1)) - (q.get(1) - p.get(1)) * (r.get(0) - p.get(0)));
    }

    private static boolean onSegment(List<Integer> p, List<Integer> q, List<Integer> r) {
        return turn(p, q, r) == 0
            && in(r.get(0), Math.min(p.get(0), q.get(0)), Math.max(p.get(0), q.get(0)))
            && in(r.get(1), Math.min(p.get(1), q.get(1)), Math.max(p.get(1), q.get(1)));
    }

    private static boolean meet(List<Integer> a, List<Integer> b, List<Integer> c, List<Integer> d) {
        return onSegment(a, b, c) || onSegment(a, b, d) || onSegment(c, d, a) || onSegment(c, d, b)
            || turn(a, b, c) != turn(a, b, d) && turn(c, d, a) != turn(c, d, b);
    }

    static boolean plain(List<List<Integer>> joints, List<List<Integer>> bars) {
        for (List<Integer> bar : bars) {
            for (int j = 0; j < joints.size(); j++) {
                if (!bar.contains(j) && onSegment(joints.get(bar.get(0)), joints.get(bar.get(1)), joints.get(j))) {
                    return false;
                }
            }
            for (List<Integer> other : bars) {
                boolean apart = !bar.contains(other.get(0)) && !bar.contains(other.get(1));
                if (apart && meet(joints.get(bar.get(0)), joints.get(bar.get(1)), joints.get(other.get(0)), joints.get(other.get(1)))) {
                    return false;
                }
            }
        }
        return true;
    }

    private State askJoint(int x, int y, int[] answer) {
        if (!in(x, 0, 5) || !in(y, 0, 5)) {
            return refused(answer, BAD);
        }
        List<List<Integer>> joints = with(now.joints, List.of(x, y));
        if (now.joints.contains(List.of(x, y)) || !plain(joints, now.bars)) {
            return refused(answer, NOT);
        }
        if (n() == 6) {
            return refused(answer, FULL);
        }
        answer[0] = n();
        return new State(joints, now.bars, now.weights, now.draw);
    }

    private State askMove(int j, int x, int y, int[] answer) {
        if (!in(j, 0, n() - 1) || !in(x, 0, 5) || !in(y, 0, 5)) {
            return refused(answer, BAD);
        }
        List<List<Integer>> joints = new ArrayList<>(now.joints);
        joints.set(j, List.of(x, y));
        if (now.joints.contains(List.of(x, y)) || !plain(joints, now.bars)) {
            return refused(answer, NOT);
        }
        answer[0] = (int) now.bars.stream().filter(b -> b.contains(j)).count();
        return new State(joints, now.bars, now.weights, now.draw);
    }

    private State askBar(int a, int b, int[] answer) {
        if (!in(a, 0, n() - 1) || !in(b, 0, n() - 1) || a == b) {
            return refused(answer, BAD);
        }
        List<Integer> bar = List.of(Math.min(a, b), Math.max(a, b));
        List<List<Integer>> bars = with(now.bars, bar);
        if (now.bars.contains(bar) || !plain(now.joints, bars)) {
            return refused(answer, NOT);
        }
        if (m() == 9) {
            return refused(answer, FULL);
        }
        answer[0] = m();
        return new State(now.joints, bars, now.weights, now.draw);
    }

    private State askOut(int k, int[] answer) {
        if (!in(k, 0, m() - 1)) {
            return refused(answer, BAD);
        }
        List<List<Integer>> bars = new ArrayList<>(now.bars);
        bars.remove(k);
        answer[0] = bars.size();
        return new State(now.joints, bars, now.weights, now.draw);
    }

    private State askLose(int j, int[] answer) {
        if (!in(j, 0, n() - 1)) {
            return refused(answer, BAD);
        }
        List<List<Integer>> joints = new ArrayList<>(now.joints);
        joints.remove(j);
        List<List<Integer>> bars = new ArrayList<>();
        for (List<Integer> bar : now.bars) {
            if (!bar.contains(j)) {
                bars.add(List.of(bar.get(0) > j ? bar.get(0) - 1 : bar.get(0), bar.get(1) > j ? bar.get(1) - 1 : bar.get(1)));
            }
        }
        answer[0] = bars.size();
        return new State(joints, bars, now.weights, now.draw);
    }

    private State askWeight(int j, int v, int[] answer) {
        if (!in(j, 0, 8) || !in(v, -9, 9)) {
            return refused(answer, BAD);
        }
        if (now.weights.get(j) == v) {
            return refused(answer, NOT);
        }
        List<Integer> weights = new ArrayList<>(now.weights);
        answer[0] = weights.set(j, v) + 9;
        return new State(now.joints, now.bars, weights, now.draw);
    }

    private static State refused(int[] answer, int why) {
        answer[0] = why;
        return null;
    }

    private int done(State then, int[] answer) {
        if (then != null) {
            step(then);
        }
        return answer[0];
    }

    int joint(int x, int y) {
        int[] a = new int[1];
        return done(askJoint(x, y, a), a);
    }

    int move(int j, int x, int y) {
        int[] a = new int[1];
        return done(askMove(j, x, y, a), a);
    }

    int lose(int j) {
        int[] a = new int[1];
        return done(askLose(j, a), a);
    }

    int bar(int p, int q) {
        int[] a = new int[1];
        return done(askBar(p, q, a), a);
    }

    int out(int k) {
        int[] a = new int[1];
        return done(askOut(k, a), a);
    }

    int weight(int j, int v) {
        int[] a = new int[1];
        return done(askWeight(j, v, a), a);
    }

    int at(int j, int what) {
        if (!in(j, 0, n() - 1) || !in(what, 0, 3)) {
            return BAD;
        }
        if (what < 2) {
            return now.joints.get(j).get(what);
        }
        int set = 0;
        for (List<Integer> bar : now.bars) {
            if (bar.contains(j)) {
                set |= 1 << bar.get(0) | 1 << bar.get(1);
            }
        }
        set &= ~(1 << j);
        return what == 2 ? Integer.bitCount(set) : set;
    }

    int of(int k, int what) {
        if (!in(k, 0, m() - 1) || !in(what, 0, 3)) {
            return BAD;
        }
        if (what < 2) {
            return now.bars.get(k).get(what);
        }
        List<Q[]> stresses = stresses();
        boolean leads = false;
        boolean needed = true;
        for (Q[] s : stresses) {
            leads |= leadOf(s) == k;
            needed &= s[k].isZero();
        }
        return (what == 2 ? leads : needed) ? 1 : 0;
    }

    int count(int what) {
        switch (what) {
            case 0: return n();
            case 1: return m();
            case 2: return stresses().size();
            case 3: return stiff(now.bars) ? 1 : 0;
            case 4: return whole() ? 1 : 0;
            case 5: return faces().size();
            case 6: return whole() ? outer() : NONE;
            case 7: return now.weights.stream().mapToInt(Integer::intValue).sum() + 81;
            case 8: return known.size();
            default: return BAD;
        }
    }

    // ---- stresses

    private static int leadOf(Q[] row) {
        int k = 0;
        while (k < row.length && row[k].isZero()) {
            k++;
        }
        return k;
    }

    /** Rows in lowest form, the first number that isn't 0 of each being 1 and alone in its column. */
    private static List<Q[]> reduced(List<Q[]> rows, int width) {
        List<Q[]> left = new ArrayList<>(rows);
        List<Q[]> made = new ArrayList<>();
        for (int c = 0; c < width; c++) {
            Q[] pivot = null;
            for (Q[] row : left) {
                if (!row[c].isZero()) {
                    pivot = row;
                    break;
                }
            }
            if (pivot == null) {
                continue;
            }
            left.remove(pivot);
            Q lead = pivot[c];
            for (int i = 0; i < width; i++) {
                pivot[i] = pivot[i].over(lead);
            }
            for (List<Q[]> some : List.of(left, made)) {
                for (Q[] row : some) {
                    Q f = row[c];
                    for (int i = 0; i < width && !f.isZero(); i++) {
                        row[i] = row[i].minus(f.times(pivot[i]));
                    }
                }
            }
            made.add(pivot);
        }
        return made;
    }

    private List<Q[]> rest(List<List<Integer>> bars) {
        List<Q[]> rows = new ArrayList<>();
        for (int j = 0; j < n(); j++) {
            for (int axis = 0; axis < 2; axis++) {
                Q[] row = new Q[bars.size()];
                for (int k = 0; k < row.length; k++) {
                    int a = bars.get(k).get(0);
                    int b = bars.get(k).get(1);
                    int step = now.joints.get(b).get(axis) - now.joints.get(a).get(axis);
                    row[k] = Q.of(j == a ? step : j == b ? -step : 0);
                }
                rows.add(row);
            }
        }
        return rows;
    }

    private State solvedFor;
    private List<Q[]> solved;

    List<Q[]> stresses() {
        if (solvedFor == now) {
            return solved;
        }
        List<Q[]> rows = reduced(rest(now.bars), m());
        List<Q[]> basis = new ArrayList<>();
        for (int free = 0; free < m(); free++) {
            final int column = free;
            if (rows.stream().anyMatch(r -> leadOf(r) == column)) {
                continue;
            }
            Q[] one = new Q[m()];
            Arrays.fill(one, Q.ZERO);
            one[free] = Q.of(1);
            for (Q[] row : rows) {
                one[leadOf(row)] = row[free].times(-1);
            }
            basis.add(one);
        }
        solved = reduced(basis, m());
        solvedFor = now;
        return solved;
    }

    private boolean stiff(List<List<Integer>> bars) {
        return n() >= 2 && reduced(rest(bars), bars.size()).size() == 2 * n() - 3;
    }

    private Q[] theStress() {
        Q[] sum = new Q[m()];
        Arrays.fill(sum, Q.ZERO);
        List<Q[]> stresses = stresses();
        for (int j = 0; j < stresses.size(); j++) {
            for (int k = 0; k < m(); k++) {
                sum[k] = sum[k].plus(stresses.get(j)[k].times(now.weights.get(j)));
            }
        }
        return sum;
    }

    long stress(int j, int k, int what) {
        if (!in(j, 0, stresses().size() - 1) || !in(k, 0, m() - 1) || !in(what, 0, 2)) {
            return BAD;
        }
        return stresses().get(j)[k].part(what);
    }

    long pull(int k, int what) {
        return in(k, 0, m() - 1) && in(what, 0, 2) ? theStress()[k].part(what) : BAD;
    }

    private List<List<Integer>> stiffFor;
    private List<List<Integer>> stiffJoints;
    private long[] stiffSets;

    long fail(int c, int what) {
        if (!in(c, 0, 10) || !in(what, 0, 1)) {
            return BAD;
        }
        if (!now.bars.equals(stiffFor) || !now.joints.equals(stiffJoints)) {
            stiffFor = now.bars;
            stiffJoints = now.joints;
            stiffSets = new long[10];
            for (int set = 0; set < 1 << m(); set++) {
                List<List<Integer>> some = new ArrayList<>();
                for (int k = 0; k < m(); k++) {
                    if ((set >> k & 1) == 1) {
                        some.add(now.bars.get(k));
                    }
                }
                stiffSets[some.size()] += some.size() >= 2 * n() - 3 && stiff(some) ? 1 : 0;
            }
        }
        Q odds = Q.ZERO;
        Q fails = Q.by(BigInteger.valueOf(c), BigInteger.TEN);
        Q holds = Q.by(BigInteger.valueOf(10 - c), BigInteger.TEN);
        for (int size = 0; size <= m(); size++) {
            Q one = Q.of(stiffSets[size]);
            for (int k = 0; k < m(); k++) {
                one = one.times(k < size ? holds : fails);
            }
            odds = odds.plus(one);
        }
        return odds.part(what);
    }

    // ---- faces

    private int from(int h) {
        return now.bars.get(h / 2).get(h % 2);
    }

    private int to(int h) {
        return from(h ^ 1);
    }

    private int stepOf(int h, int axis) {
        return now.joints.get(to(h)).get(axis) - now.joints.get(from(h)).get(axis);
    }

    private double angle(int h) {
        double a = Math.atan2(stepOf(h, 1), stepOf(h, 0));
        return a < -1e-9 ? a + 2 * Math.PI : a;
    }

    int next(int h) {
        if (!in(h, 0, 2 * m() - 1)) {
            return BAD;
        }
        int best = h ^ 1;
        double least = 2 * Math.PI;
        for (int g = 0; g < 2 * m(); g++) {
            if (from(g) == to(h) && g != (h ^ 1)) {
                double clockwise = angle(h ^ 1) - angle(g);
                clockwise = clockwise < 0 ? clockwise + 2 * Math.PI : clockwise;
                if (clockwise < least) {
                    least = clockwise;
                    best = g;
                }
            }
        }
        return best;
    }

    private List<List<Integer>> faces() {
        List<List<Integer>> faces = new ArrayList<>();
        boolean[] seen = new boolean[2 * m()];
        for (int h = 0; h < 2 * m(); h++) {
            List<Integer> walk = new ArrayList<>();
            for (int g = h; !seen[g]; g = next(g)) {
                seen[g] = true;
                walk.add(g);
            }
            if (!walk.isEmpty()) {
                faces.add(walk);
            }
        }
        return faces;
    }

    private int areaOf(List<Integer> walk) {
        int area = 0;
        for (int h : walk) {
            List<Integer> p = now.joints.get(from(h));
            List<Integer> q = now.joints.get(to(h));
            area += p.get(0) * q.get(1) - q.get(0) * p.get(1);
        }
        return area;
    }

    private boolean whole() {
        ArrayDeque<Integer> open = new ArrayDeque<>();
        List<Integer> reached = new ArrayList<>();
        if (n() > 0) {
            open.add(0);
            reached.add(0);
        }
        while (!open.isEmpty()) {
            int j = open.remove();
            for (int h = 0; h < 2 * m(); h++) {
                if (from(h) == j && !reached.contains(to(h))) {
                    reached.add(to(h));
                    open.add(to(h));
                }
            }
        }
        return m() > 0 && reached.size() == n();
    }

    private int outer() {
        int outer = -1;
        List<List<Integer>> faces = faces();
        for (int f = 0; f < faces.size(); f++) {
            if (areaOf(faces.get(f)) <= 0) {
                if (outer >= 0) {
                    throw new IllegalStateException("two OUTER faces");
                }
                outer = f;
            }
        }
        return outer;
    }

    int face(int f, int what) {
        List<List<Integer>> faces = faces();
        if (!in(f, 0, faces.size() - 1) || !in(what, 0, 2)) {
            return BAD;
        }
        List<Integer> walk = faces.get(f);
        return what == 0 ? walk.size() : what == 1 ? Math.abs(areaOf(walk)) : walk.get(0);
    }

    int round(int f, int i) {
        List<List<Integer>> faces = faces();
        return in(f, 0, faces.size() - 1) && in(i, 0, faces.get(f).size() - 1) ? faces.get(f).get(i) : BAD;
    }

    int beside(int h) {
        List<List<Integer>> faces = faces();
        for (int f = 0; f < faces.size(); f++) {
            if (faces.get(f).contains(h)) {
                return f;
            }
        }
        return BAD;
    }

    /** A, B, C and the POINT of each face, from OUTER on; every rule of theirs is tried out at the end. */
    private Q[][] planes() {
        List<List<Integer>> faces = faces();
        int[] of = new int[2 * m()];
        for (int f = 0; f < faces.size(); f++) {
            for (int h : faces.get(f)) {
                of[h] = f;
            }
        }
        Q[] pull = theStress();
        Q[][] all = new Q[faces.size()][];
        all[outer()] = new Q[] {Q.ZERO, Q.ZERO, Q.ZERO, Q.ZERO, Q.ZERO};
        for (int pass = 0; pass <= faces.size(); pass++) {
            for (int h = 0; h < 2 * m(); h++) {
                if (all[of[h ^ 1]] != null && all[of[h]] == null) {
                    all[of[h]] = across(all[of[h ^ 1]], h, pull[h / 2], from(h));
                }
            }
        }
        for (int h = 0; h < 2 * m(); h++) {
            for (int j : new int[] {from(h), to(h)}) {
                if (!Arrays.equals(all[of[h]], across(all[of[h ^ 1]], h, pull[h / 2], j))) {
                    throw new IllegalStateException("the fold does not close");
                }
            }
        }
        return all;
    }

    private Q[] across(Q[] known, int h, Q number, int j) {
        Q f = number.times(stepOf(h, 0));
        Q g = number.times(stepOf(h, 1));
        Q a = known[0].minus(g);
        Q b = known[1].plus(f);
        int x = now.joints.get(j).get(0);
        int y = now.joints.get(j).get(1);
        Q z = known[0].times(x).plus(known[1].times(y)).plus(known[2]);
        Q c = z.minus(a.times(x)).minus(b.times(y));
        return new Q[] {a, b, c, known[3].plus(f), known[4].plus(g)};
    }

    long point(int f, int axis, int what) {
        if (!in(f, 0, faces().size() - 1) || !in(axis, 0, 1) || !in(what, 0, 2)) {
            return BAD;
        }
        return whole() ? planes()[f][3 + axis].part(what) : NONE;
    }

    long plane(int f, int which, int what) {
        if (!in(f, 0, faces().size() - 1) || !in(which, 0, 2) || !in(what, 0, 2)) {
            return BAD;
        }
        return whole() ? planes()[f][which].part(what) : NONE;
    }

    long height(int j, int what) {
        if (!in(j, 0, n() - 1) || !in(what, 0, 2)) {
            return BAD;
        }
        if (!whole()) {
            return NONE;
        }
        int last = 2 * m() - 1;
        while (from(last) != j) {
            last--;
        }
        Q[] p = planes()[beside(last)];
        return p[0].times(now.joints.get(j).get(0)).plus(p[1].times(now.joints.get(j).get(1))).plus(p[2]).part(what);
    }

    long corner(int j, int i, int axis, int what) {
        if (!in(j, 0, n() - 1) || !in(i, 0, at(j, 2)) || !in(axis, 0, 1) || !in(what, 0, 2)) {
            return BAD;
        }
        List<Integer> around = new ArrayList<>();
        for (int h = 0; h < 2 * m(); h++) {
            if (from(h) == j) {
                around.add(h);
            }
        }
        around.sort((g, h) -> Double.compare(angle(g), angle(h)));
        Q sum = Q.ZERO;
        for (int h : around.subList(0, i)) {
            sum = sum.plus(theStress()[h / 2].times(stepOf(h, axis)));
        }
        return sum.part(what);
    }

    // ---- what is done

    int type(int letter) {
        if (!in(letter, 32, 126)) {
            return BAD;
        }
        if (tape.length() == 60) {
            return FULL;
        }
        tape += (char) letter;
        return tape.length();
    }

    int read() {
        String text = tape;
        tape = "";
        List<Character> signs = new ArrayList<>();
        List<Integer> places = new ArrayList<>();
        for (int i = 0; i < text.length(); i++) {
            if (text.charAt(i) != ' ') {
                signs.add(text.charAt(i));
                places.add(i);
            }
        }
        List<List<Integer>> joints = new ArrayList<>();
        List<List<Integer>> bars = new ArrayList<>();
        int good = 0;
        boolean second = false;
        // Signs come in threes: a figure, a figure, and what stands between.
        while (good < signs.size() && fits(signs, good, second, joints, bars)) {
            second |= signs.get(good) == ';';
            good++;
        }
        if (good < signs.size() || good % 3 != 2) {
            return -20 - (good < signs.size() ? places.get(good) : text.length());
        }
        step(new State(joints, bars, now.weights, now.draw));
        return bars.size();
    }

    private static boolean fits(List<Character> signs, int i, boolean second, List<List<Integer>> joints, List<List<Integer>> bars) {
        char sign = signs.get(i);
        if (i % 3 == 2) {
            return sign == ',' || sign == ';' && !second;
        }
        int most = second ? joints.size() - 1 : 5;
        if (!in(sign - '0', 0, most)) {
            return false;
        }
        if (i % 3 == 0) {
            return second ? bars.size() < 9 : joints.size() < 6;
        }
        int first = signs.get(i - 1) - '0';
        int other = sign - '0';
        if (!second) {
            boolean fresh = !joints.contains(List.of(first, other));
            joints.add(List.of(first, other));
            return fresh;
        }
        List<Integer> bar = List.of(Math.min(first, other), Math.max(first, other));
        boolean fresh = first != other && !bars.contains(bar);
        bars.add(bar);
        return fresh && plain(joints, bars);
    }

    int drift(int turns) {
        if (!in(turns, 1, 40)) {
            return BAD;
        }
        for (int i = 0; i < turns; i++) {
            State before = now;
            long draw = BigInteger.valueOf(now.draw).multiply(BigInteger.valueOf(1103515245)).add(BigInteger.valueOf(12345))
                .mod(BigInteger.ONE.shiftLeft(31)).longValueExact();
            int v = (int) (draw / 65536);
            int p = v / 8 % 6;
            int q = v / 64 % 6;
            int r = v / 512 % 6;
            int[] a = new int[1];
            State then;
            switch (v % 8) {
                case 0: then = askJoint(p, q, a); break;
                case 1: case 2: case 3: case 4: then = askBar(p, q, a); break;
                case 5: then = askMove(p, q, r, a); break;
                case 6: then = askOut(p, a); break;
                default: then = askWeight(p, q + r - 5, a); break;
            }
            State base = then == null ? before : then;
            step(new State(base.joints, base.bars, base.weights, draw));
        }
        return m();
    }

    int undo() {
        if (known.isEmpty()) {
            return NONE;
        }
        now = known.remove(known.size() - 1);
        return known.size();
    }

    int seed(int v) {
        if (v < 0) {
            return BAD;
        }
        int before = (int) now.draw;
        now = new State(now.joints, now.bars, now.weights, v);
        return before;
    }

    int image() {
        imageState = now;
        imageKnown = new ArrayList<>(known);
        return 1;
    }

    int restore() {
        if (imageState == null) {
            return NONE;
        }
        now = imageState;
        known = new ArrayList<>(imageKnown);
        return 1;
    }

    // ---- sheets

    private int rowAnswer(int sheet, int lane) {
        if (!in(sheet, 0, 3) || !in(lane, 0, 3)) {
            return BAD;
        }
        return sheets[sheet] == null ? NULL : lanes[sheet] != lane ? CAST : 0;
    }

    int what(int sheet, int lane, int i) {
        int no = rowAnswer(sheet, lane);
        if (no != 0) {
            return no;
        }
        if (!in(i, 0, sheets[sheet].length - m())) {
            return INDEX;
        }
        long[] row = Arrays.copyOfRange(sheets[sheet], i, i + m());
        for (long v : row) {
            if (v < -99 || v > 99) {
                return NOT;
            }
        }
        int bits = isStress(row) ? 1 : 0;
        bits |= Arrays.stream(row).noneMatch(v -> v == 0) ? 2 : 0;
        bits |= Arrays.stream(row).noneMatch(v -> v < 0) ? 4 : 0;
        return bits | (isMultiple(row) ? 8 : 0);
    }

    private boolean isStress(long[] row) {
        for (Q[] equation : rest(now.bars)) {
            Q sum = Q.ZERO;
            for (int k = 0; k < m(); k++) {
                sum = sum.plus(equation[k].times(row[k]));
            }
            if (!sum.isZero()) {
                return false;
            }
        }
        return true;
    }

    private boolean isMultiple(long[] row) {
        Q[] pull = theStress();
        Q factor = Q.ZERO;
        for (int k = 0; k < m(); k++) {
            if (!pull[k].isZero()) {
                factor = Q.of(row[k]).over(pull[k]);
            }
        }
        for (int k = 0; k < m(); k++) {
            if (!pull[k].times(factor).equals(Q.of(row[k]))) {
                return false;
            }
        }
        return true;
    }

    int film(int sheet, int lane, int i) {
        int no = rowAnswer(sheet, lane);
        if (no != 0) {
            return no;
        }
        if (i < 0 || (long) i + m() > sheets[sheet].length) {
            return INDEX;
        }
        for (int k = 0; k < m(); k++) {
            sheets[sheet][i + k] = theStress()[k].above.signum();
        }
        return m();
    }

    int sheet(int sheet, int lane, int n) {
        if (!in(sheet, 0, 3) || !in(lane, 0, 3) || n > 24) {
            return BAD;
        }
        if (n < 0) {
            return SIZE;
        }
        sheets[sheet] = new long[n];
        lanes[sheet] = lane;
        return n;
    }

    int drop(int sheet) {
        if (!in(sheet, 0, 3)) {
            return BAD;
        }
        if (sheets[sheet] == null) {
            return NULL;
        }
        int had = sheets[sheet].length;
        sheets[sheet] = null;
        return had;
    }

    int item(int sheet, int lane, int i, long v) {
        int no = rowAnswer(sheet, lane);
        if (no != 0) {
            return no;
        }
        if (!in(i, 0, sheets[sheet].length - 1)) {
            return INDEX;
        }
        int cut = 64 - (8 << lane);
        sheets[sheet][i] = v << cut >> cut;
        return 1;
    }

    int copy(int from, int i, int to, int j, int n) {
        if (!in(from, 0, 3) || !in(to, 0, 3)) {
            return BAD;
        }
        if (sheets[from] == null || sheets[to] == null) {
            return NULL;
        }
        if (lanes[from] != lanes[to]) {
            return CAST;
        }
        if (n < 0 || i < 0 || j < 0 || (long) i + n > sheets[from].length || (long) j + n > sheets[to].length) {
            return INDEX;
        }
        long[] taken = Arrays.copyOfRange(sheets[from], i, i + n);
        for (int k = 0; k < n; k++) {
            sheets[to][j + k] = taken[k];
        }
        return n;
    }
}
