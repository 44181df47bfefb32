import java.util.ArrayList;
import java.util.Arrays;
import java.util.Collections;
import java.util.List;
import java.util.Random;

/** Runs of calls on the program and on the model, told by a seed: each answer is the same. */
public final class ModelTest {
    private static final int RUNS = Integer.getInteger("runs", 300);
    private static final int CALLS = 512;
    private static final String[] TEXTS = {
        "00,50,05,11;01,12,02,03,13,23", "00,50,05,11,22;01,12,02,03,13,23,34,14,24",
        "00,50,55,05,22;01,12,23,30,04,14,24,34", "00,50,05,11,31,13;01,12,02,34,45,35,03,14,25",
        "00,10,20;01,12", "22,42,24,02,20,33;01,02,03,04,05", "00,50,25,24,21;01,12,02,03,13,23,34,04,14",
        "02,52,20,25,22;04,14,24,34,02,12,13,03", "00,10,05,15;01,23", "10,43,04,12,31;01,12,20,03,13,23,14",
        "00,21,12,11;01,12,20,03,13,23",
    };
    private static final Check CHECK = new Check();

    private final Random random;
    private final ForceFrames x = new ForceFrames();
    private final Model model = new Model();
    private final List<String> calls = new ArrayList<>();
    private boolean good = true;

    private ModelTest(long seed) {
        random = new Random(seed);
    }

    public static void main(String[] args) {
        long first = Long.getLong("first", 0L);
        for (long seed = first; seed < first + RUNS; seed++) {
            ModelTest run = new ModelTest(seed);
            while (run.calls.size() < CALLS && run.good) {
                run.act();
            }
            if (!run.good) {
                System.out.println("run of seed " + seed + ": " + String.join("; ", run.calls));
            }
        }
        CHECK.end();
    }

    private void due(String call, long got, long want) {
        calls.add(call + "=" + got);
        CHECK.due(call, got, want);
        good &= got == want;
    }

    /** Mostly within 0 .. most; now and then beyond it, or far off. */
    private int pick(int most) {
        int dice = random.nextInt(60);
        if (dice == 0) {
            return -1;
        }
        if (dice == 1) {
            return most + 1;
        }
        if (dice == 2) {
            return random.nextBoolean() ? Integer.MAX_VALUE : Integer.MIN_VALUE;
        }
        return random.nextInt(Math.max(most, 0) + 1);
    }

    private void act() {
        int dice = random.nextInt(100);
        if (dice < 15) {
            change();
        } else if (dice < 18) {
            tell();
        } else if (dice < 47) {
            askFrame();
        } else if (dice < 77) {
            askFaces();
        } else {
            useSheets();
        }
    }

    private void change() {
        int a = pick(5);
        int b = pick(5);
        int c = pick(5);
        switch (random.nextInt(20)) {
            case 0: case 1: case 2: due("joint " + a + " " + b, x.joint(a, b), model.joint(a, b)); break;
            case 3: case 4: due("move " + a + " " + b + " " + c, x.move(a, b, c), model.move(a, b, c)); break;
            case 5: due("lose " + a, x.lose(a), model.lose(a)); break;
            case 6: case 7: case 8: case 9: case 10: due("bar " + a + " " + b, x.bar(a, b), model.bar(a, b)); break;
            case 11: due("out " + c, x.out(c), model.out(c)); break;
            case 12: case 13: weight(); break;
            case 14: drift(); break;
            case 15: case 16: due("undo", x.undo(), model.undo()); break;
            case 17: seed(); break;
            case 18: due("image", x.image(), model.image()); break;
            default: if (random.nextInt(3) == 0) due("restore", x.restore(), model.restore()); break;
        }
    }

    private void weight() {
        int j = random.nextInt(3) == 0 ? pick(8) : random.nextInt(2);
        int v = pick(18) - 9;
        due("weight " + j + " " + v, x.weight(j, v), model.weight(j, v));
    }

    private void drift() {
        int n = random.nextBoolean() ? pick(6) : pick(40);
        due("drift " + n, x.drift(n), model.drift(n));
    }

    private void seed() {
        int v = random.nextInt() >>> random.nextInt(2);
        due("seed " + v, x.seed(v), model.seed(v));
    }

    private void tell() {
        StringBuilder text = new StringBuilder();
        int dice = random.nextInt(6);
        if (dice < 2) {
            text.append(shuffled(TEXTS[random.nextInt(TEXTS.length)]));
        } else if (dice < 4) {
            text.append(crowded());
        } else {
            int joints = random.nextInt(7);
            for (int i = 0; i <= joints; i++) {
                text.append(i == 0 ? "" : ",").append(random.nextInt(6)).append(random.nextInt(6));
            }
            int bars = random.nextInt(11);
            for (int i = 0; i < bars; i++) {
                text.append(i == 0 ? ";" : ",").append(random.nextInt(joints + 1)).append(random.nextInt(joints + 1));
            }
        }
        if (random.nextInt(4) == 0) {
            text.setCharAt(random.nextInt(text.length()), " 0123456,;x".charAt(random.nextInt(11)));
        }
        if (random.nextInt(4) == 0) {
            text.insert(random.nextInt(text.length() + 1), " ");
        }
        if (random.nextInt(6) == 0) {
            text.setLength(random.nextInt(text.length()));
        }
        if (random.nextInt(40) == 0) {
            text.append((char) (random.nextBoolean() ? 31 : 127));
        }
        for (int i = 0; i < text.length() && calls.size() < CALLS - 1; i++) {
            due("type " + text.charAt(i), x.type(text.charAt(i)), model.type(text.charAt(i)));
        }
        if (random.nextInt(30) > 0) {
            due("read", x.read(), model.read());
        }
    }

    /** The same frame with its bars in another order: others lead. */
    private String shuffled(String text) {
        int cut = text.indexOf(';') + 1;
        List<String> bars = Arrays.asList(text.substring(cut).split(","));
        Collections.shuffle(bars, random);
        return text.substring(0, cut) + String.join(",", bars);
    }

    /** Bars in any order, as many as can stand: frames that have stresses. */
    private String crowded() {
        List<List<Integer>> joints = new ArrayList<>();
        int least = random.nextInt(3) + 4;
        while (joints.size() < least) {
            List<Integer> place = List.of(random.nextInt(6), random.nextInt(6));
            if (!joints.contains(place)) {
                joints.add(place);
            }
        }
        List<List<Integer>> pairs = new ArrayList<>();
        for (int b = 0; b < least; b++) {
            for (int a = 0; a < b; a++) {
                pairs.add(List.of(a, b));
            }
        }
        Collections.shuffle(pairs, random);
        List<List<Integer>> bars = new ArrayList<>();
        for (List<Integer> pair : pairs) {
            bars.add(pair);
            if (bars.size() > 9 || !Model.plain(joints, bars)) {
                bars.remove(bars.size() - 1);
            }
        }
        return figures(joints) + ";" + figures(bars);
    }

    private static String figures(List<List<Integer>> pairs) {
        List<String> all = new ArrayList<>();
        for (List<Integer> pair : pairs) {
            all.add("" + pair.get(0) + pair.get(1));
        }
        return String.join(",", all);
    }

    private void askFrame() {
        int j = pick(5);
        int k = pick(Math.max(0, model.count(1) - 1));
        int what = pick(3);
        switch (random.nextInt(8)) {
            case 0: due("at " + j + " " + what, x.at(j, what), model.at(j, what)); break;
            case 1: due("of " + k + " " + what, x.of(k, what), model.of(k, what)); break;
            case 2: case 3: what = pick(8); due("count " + what, x.count(what), model.count(what)); break;
            case 4: case 5: stress(k, pick(2)); break;
            case 6: what = pick(2); due("pull " + k + " " + what, x.pull(k, what), model.pull(k, what)); break;
            default: fail(); break;
        }
    }

    private void stress(int k, int what) {
        int j = pick(Math.max(0, model.count(2) - 1));
        due("stress " + j + " " + k + " " + what, x.stress(j, k, what), model.stress(j, k, what));
    }

    private void fail() {
        int c = pick(10);
        int what = pick(1);
        due("fail " + c + " " + what, x.fail(c, what), model.fail(c, what));
    }

    private void askFaces() {
        int h = pick(Math.max(0, 2 * model.count(1) - 1));
        int f = pick(Math.max(0, model.count(5) - 1));
        int i = pick(5);
        int axis = pick(1);
        int what = pick(2);
        switch (random.nextInt(8)) {
            case 0: due("next " + h, x.next(h), model.next(h)); break;
            case 1: due("face " + f + " " + what, x.face(f, what), model.face(f, what)); break;
            case 2: due("round " + f + " " + i, x.round(f, i), model.round(f, i)); break;
            case 3: due("beside " + h, x.beside(h), model.beside(h)); break;
            case 4: due("point " + f + " " + axis + " " + what, x.point(f, axis, what), model.point(f, axis, what)); break;
            case 5: int which = pick(2); due("plane " + f + " " + which + " " + what, x.plane(f, which, what), model.plane(f, which, what)); break;
            case 6: due("height " + i + " " + what, x.height(i, what), model.height(i, what)); break;
            default: int j = pick(5); due("corner " + j + " " + i + " " + axis + " " + what, x.corner(j, i, axis, what), model.corner(j, i, axis, what)); break;
        }
    }

    private void useSheets() {
        int s = pick(3);
        int t = random.nextInt(3) == 0 ? s : pick(3);
        int lane = random.nextInt(8) == 0 ? pick(3) : s & 1;
        int i = random.nextInt(3) == 0 ? pick(24) : pick(3);
        int n = random.nextInt(3) == 0 ? pick(24) : pick(10);
        switch (random.nextInt(12)) {
            case 0: case 1: due("sheet " + s + " " + lane + " " + n, x.sheet(s, lane, n), model.sheet(s, lane, n)); break;
            case 2: if (random.nextInt(4) == 0) due("drop " + s, x.drop(s), model.drop(s)); break;
            case 3: case 4: item(s, lane, i); break;
            case 5: case 6: due("film " + s + " " + lane + " " + i, x.film(s, lane, i), model.film(s, lane, i)); break;
            case 7: copy(s, i, t, n); break;
            case 8: fillWithStress(s, lane, i); break;
            default: due("what " + s + " " + lane + " " + i, x.what(s, lane, i), model.what(s, lane, i)); break;
        }
    }

    private void item(int s, int lane, int i) {
        long v = random.nextInt(4) == 0 ? random.nextLong() >> random.nextInt(64) : random.nextInt(5) - 2;
        due("item " + s + " " + lane + " " + i + " " + v, x.item(s, lane, i, v), model.item(s, lane, i, v));
    }

    private void copy(int s, int i, int t, int n) {
        int j = pick(4);
        due("copy " + s + " " + i + " " + t + " " + j + " " + n, x.copy(s, i, t, j, n), model.copy(s, i, t, j, n));
    }

    /** Random rows are hardly ever stresses, so some are put there. */
    private void fillWithStress(int s, int lane, int i) {
        List<Model.Q[]> stresses = model.stresses();
        if (stresses.isEmpty() || i < 0 || i > 24) {
            return;
        }
        Model.Q[] row = stresses.get(random.nextInt(stresses.size()));
        Model.Q common = Model.Q.of(1);
        for (Model.Q q : row) {
            common = Model.Q.of(common.times(q.below().longValueExact() / common.above().gcd(q.below()).longValueExact()).above().longValueExact());
        }
        for (int k = 0; k < row.length && calls.size() < CALLS; k++) {
            long v = row[k].times(common).above().longValueExact() + (random.nextInt(30) == 0 ? 1 : 0);
            due("item " + s + " " + lane + " " + (i + k) + " " + v, x.item(s, lane, i + k, v), model.item(s, lane, i + k, v));
        }
        due("what " + s + " " + lane + " " + i, x.what(s, lane, i), model.what(s, lane, i));
    }
}
