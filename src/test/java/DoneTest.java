/** Promises 22 to 28: texts, draws, what is undone, images. */
public final class DoneTest {
    private static final Check CHECK = new Check();
    private static final String WHEEL3 = "00,50,05,11;01,12,02,03,13,23";

    private DoneTest() {
    }

    public static void main(String[] args) {
        promise22Type();
        promise23Read();
        promise23Faults();
        promise24Drift();
        promise25Undo();
        promise25UndoOfEach();
        promise26Seed();
        promise27And28Image();
        CHECK.end();
    }

    private static void due(String call, long got, long want) {
        CHECK.due(call, got, want);
    }

    /** All that can be seen of a frame; what may be undone is left out. */
    private static String seen(ForceFrames x) {
        StringBuilder all = new StringBuilder();
        for (int what = 0; what < 8; what++) {
            all.append(x.count(what)).append(' ');
        }
        for (int j = 0; j < x.count(0); j++) {
            all.append(x.at(j, 0)).append(x.at(j, 1)).append(',');
        }
        for (int k = 0; k < x.count(1); k++) {
            all.append(x.of(k, 0)).append(x.of(k, 1)).append('=');
            all.append(Check.fraction(x.pull(k, 0), x.pull(k, 1), x.pull(k, 2))).append(',');
        }
        return all.append(" draw ").append(drawOf(x)).toString();
    }

    private static int drawOf(ForceFrames x) {
        int draw = x.seed(0);
        x.seed(draw);
        return draw;
    }

    private static void promise22Type() {
        ForceFrames x = new ForceFrames();
        due("type 31", x.type(31), -1);
        due("type 127", x.type(127), -1);
        due("type far", x.type(Integer.MIN_VALUE), -1);
        due("type 65584, no figure", x.type(65536 + 48), -1);
        due("type 32", x.type(32), 1);
        due("type 126", x.type(126), 2);
        for (int i = 3; i <= 60; i++) {
            due("type", x.type('0'), i);
        }
        due("type a 61st", x.type('0'), -3);
        due("type a 61st, bad", x.type(200), -1);
        due("read", x.read(), -21);
        due("type anew", x.type('0'), 1);
    }

    private static void promise23Read() {
        ForceFrames x = new ForceFrames();
        due("read", Check.tell(x, WHEEL3), 6);
        due("a step", x.count(8), 1);
        due("read the same", Check.tell(x, WHEEL3), 6);
        due("a step, too", x.count(8), 2);
        x.weight(0, 4);
        x.seed(99);
        due("no bars", Check.tell(x, "31 , 2 4"), 0);
        due("joints", x.count(0), 2);
        due("x", x.at(1, 0), 2);
        due("y", x.at(1, 1), 4);
        due("weights stay", x.count(7), 85);
        due("the draw stays", drawOf(x), 99);
        due("turned bars", Check.tell(x, "00,10,01;20,12"), 2);
        due("a", x.of(0, 0), 0);
        due("b", x.of(0, 1), 2);
        due("the tape is empty", x.type('0'), 1);
        due("60 letters", Check.tell(new ForceFrames(), "00,50,05,11,22;01,12,02,03,13,23,34,14,24" + " ".repeat(19)), 9);
    }

    /** Each text with the place of its FAULT. */
    private static void promise23Faults() {
        Object[][] faults = {
            {"", 0}, {"   ", 3}, {"0", 1}, {"6", 0}, {"06", 1}, {"a0", 0}, {",", 0}, {";", 0}, {"00;", 3}, {"00,", 3},
            {"00,;", 3}, {"00;;", 3}, {"00 00", 3}, {"00,0 0", 5}, {"00,00;", 4}, {"0/", 1}, {"00:", 2}, {"  x", 2},
            {"00 , 10 ; 0", 11}, {"00 , 10 ; 0   ", 14}, {"00,01,02,03,04,05,10", 18}, {"00,01,02,03,04,05,", 18},
            {"00,01,02,03,04,05, 6", 19}, {"00,10;02", 7}, {"00,10;20", 6}, {"00,10;00", 7}, {"00,10;01,10", 10},
            {"00,10;01,01", 10}, {"00,10,20;02", 10}, {"00,22,20,02;01,23", 16}, {"00,10;01;", 8}, {"00,10;01,", 9},
            {"00,10;01 01", 9}, {"00;01", 4}, {"00,33,20,02;01, 2 3", 18}, {"00,10;0,", 7}, {"00.10", 2},
            {"00,50,05,11,22,13;01,12,02,03,13,23,34,14,24,25", 45},
            {"00,50,05,11,22,13;01,12,02,03,13,23,34,14,24, 25", 46}, {"00,50,05,11,22;01,12,02,03,13,23,34,14,24,", 42},
        };
        for (Object[] fault : faults) {
            String text = (String) fault[0];
            ForceFrames x = Check.frameOf("11,22;01");
            x.seed(5);
            String before = seen(x);
            due("FAULT of <" + text + ">", Check.tell(x, text), -20 - (Integer) fault[1]);
            CHECK.holds("a FAULT changes nothing: " + text, before.equals(seen(x)));
            due("a FAULT is no step", x.count(8), 1);
            due("a FAULT empties the tape", x.type('0'), 1);
        }
        due("in line, with an end between, is fine", Check.tell(new ForceFrames(), "00,10,20;01,12"), 2);
        due("six joints", Check.tell(new ForceFrames(), "00,01,02,03,04,05"), 0);
    }

    /** One turn of a DRIFT by other words: the calls themselves on a twin. */
    private static void turn(ForceFrames twin) {
        long draw = (drawOf(twin) * 1103515245L + 12345L) % 2147483648L;
        twin.seed((int) draw);
        int v = (int) (draw / 65536);
        int p = (v / 8) % 6;
        int q = (v / 64) % 6;
        int r = (v / 512) % 6;
        if (v % 8 == 0) {
            twin.joint(p, q);
        } else if (v % 8 <= 4) {
            twin.bar(p, q);
        } else if (v % 8 == 5) {
            twin.move(p, q, r);
        } else if (v % 8 == 6) {
            twin.out(p);
        } else {
            twin.weight(p, q + r - 5);
        }
    }

    private static void promise24Drift() {
        ForceFrames x = new ForceFrames();
        due("drift 0", x.drift(0), -1);
        due("drift 41", x.drift(41), -1);
        due("drift below", x.drift(-5), -1);
        due("the draw stays if refused", drawOf(x), 1);
        x.drift(1);
        due("the first draw", drawOf(x), 1103527590);
        due("a turn is a step", x.count(8), 1);
        for (int seed = 0; seed < 300; seed++) {
            ForceFrames one = Check.frameOf("00,50,05,11;01,12");
            ForceFrames twin = Check.frameOf("00,50,05,11;01,12");
            one.seed(seed * 7919);
            twin.seed(seed * 7919);
            int turns = seed % 40 + 1;
            int bars = one.drift(turns);
            for (int i = 0; i < turns; i++) {
                turn(twin);
            }
            due("drift answers BARS", bars, twin.count(1));
            CHECK.holds("drift by seed " + seed, seen(one).equals(seen(twin)));
            due("steps of a drift", one.count(8), Math.min(6, turns + 1));
        }
        due("the greatest seed", greatestSeed(), (2147483647L * 1103515245L + 12345L) & 2147483647L);
    }

    private static long greatestSeed() {
        ForceFrames x = new ForceFrames();
        x.seed(Integer.MAX_VALUE);
        x.drift(1);
        return drawOf(x);
    }

    private static void promise25Undo() {
        ForceFrames x = new ForceFrames();
        due("undo none", x.undo(), -4);
        String[] states = new String[12];
        for (int i = 0; i < 10; i++) {
            states[i] = seen(x);
            x.drift(1);
        }
        states[10] = seen(x);
        for (int left = 5; left >= 0; left--) {
            due("undo", x.undo(), left);
            CHECK.holds("undone to " + (left + 4), seen(x).equals(states[left + 4]));
            due("what may be undone", x.count(8), left);
        }
        due("older ones are lost", x.undo(), -4);
        CHECK.holds("stays", seen(x).equals(states[4]));
        x.drift(10);
        due("known anew", x.count(8), 6);
        due("undo anew", x.undo(), 5);
        x.weight(0, -9);
        due("one more", x.count(8), 6);
    }

    private static void promise25UndoOfEach() {
        ForceFrames x = Check.frameOf("00,50,05,11;01,12,02,03,13");
        for (int step = 0; step < 8; step++) {
            x.seed(1000 + step);
            String before = seen(x);
            int known = x.count(8);
            doStep(x, step);
            CHECK.holds("step " + step + " is one", x.count(8) == known + 1);
            // A seed told since is as it had not been, since THE DRAW is as ahead of the step.
            x.seed(5);
            due("undo of step " + step, x.undo(), known);
            CHECK.holds("step " + step + " undone", before.equals(seen(x)));
        }
        int known = x.count(8);
        x.seed(3);
        due("a seed is no step", x.count(8), known);
        x.type('0');
        x.sheet(0, 0, 3);
        x.weight(5, 5);
        x.undo();
        due("the tape is not undone", x.type('0'), 2);
        due("sheets are not undone", x.drop(0), 3);
    }

    private static void doStep(ForceFrames x, int step) {
        switch (step) {
            case 0: x.joint(5, 5); break;
            case 1: x.move(3, 2, 1); break;
            case 2: x.lose(0); break;
            case 3: x.out(2); break;
            case 4: x.weight(0, 7); break;
            case 5: Check.tell(x, "00"); break;
            case 6: x.drift(1); break;
            default: x.bar(3, 2); break;
        }
    }

    private static void promise26Seed() {
        ForceFrames x = new ForceFrames();
        due("seed below", x.seed(-1), -1);
        due("seed far below", x.seed(Integer.MIN_VALUE), -1);
        due("seed", x.seed(0), 1);
        due("seed again", x.seed(0), 0);
        due("seed most", x.seed(Integer.MAX_VALUE), 0);
        due("seed back", x.seed(1), Integer.MAX_VALUE);
    }

    private static void promise27And28Image() {
        ForceFrames x = new ForceFrames();
        due("restore none", x.restore(), -4);
        Check.tell(x, WHEEL3);
        x.weight(0, 4);
        x.seed(77);
        due("image", x.image(), 1);
        String kept = seen(x);
        x.drift(40);
        x.type('0');
        x.sheet(1, 2, 7);
        due("restore", x.restore(), 1);
        CHECK.holds("as it was", kept.equals(seen(x)));
        due("steps as then", x.count(8), 2);
        due("the tape stays", x.type('0'), 2);
        due("sheets stay", x.drop(1), 7);
        due("undo then", x.undo(), 1);
        due("weight of then", x.count(7), 82);
        due("undo once more", x.undo(), 0);
        due("joints of then", x.count(0), 0);
        x.drift(3);
        due("restore again", x.restore(), 1);
        CHECK.holds("as it was, again", kept.equals(seen(x)));
        x.lose(0);
        due("a new image", x.image(), 1);
        x.restore();
        due("the new one", x.count(0), 3);
        due("an image is no step", x.count(8), 3);
        x.seed(12);
        x.image();
        x.seed(13);
        x.restore();
        due("the draw is kept", drawOf(x), 12);
    }
}
