import java.util.List;

/**
 * All that can be asked behind a run of calls, as one text. Some of it can be asked only by changing
 * the object (weights, THE DRAW, THE TAPE, what may be UNDONE, the IMAGE), and 512 calls are all an
 * object is good for, so the run is made anew for each part.
 */
final class Seen {
    private static final int MOST_CALLS = 512;

    private final ForceFrames x = new ForceFrames();
    private final StringBuilder all;
    private int calls;

    private Seen(List<Call> run, StringBuilder all, String part) {
        this.all = all;
        for (Call call : run) {
            count();
            call.on(x);
        }
        all.append('\n').append(part).append(':');
    }

    static String after(List<Call> run) {
        StringBuilder all = new StringBuilder();
        new Seen(run, all, "frame").frame();
        new Seen(run, all, "faces").faces();
        new Seen(run, all, "corners").corners();
        new Seen(run, all, "sheets").sheets();
        new Seen(run, all, "tape").tape();
        new Seen(run, all, "text").text();
        for (int steps = 0, known = 0; steps <= known; steps++) {
            known = new Seen(run, all, "undone " + steps).undone(steps);
        }
        for (int steps = 0, known = 0; steps <= known; steps++) {
            known = new Seen(run, all, "restored, undone " + steps).restored(steps);
        }
        return all.toString();
    }

    private void count() {
        calls++;
        if (calls > MOST_CALLS) {
            throw new IllegalStateException("an object is used for at most 512 calls");
        }
    }

    private int ask(String name, long... numbers) {
        count();
        long answer = Call.answer(x, name, numbers);
        all.append(' ').append(answer);
        return (int) answer;
    }

    private void askParts(String name, long... numbers) {
        long[] longer = java.util.Arrays.copyOf(numbers, numbers.length + 1);
        for (int what = 0; what < 3; what++) {
            longer[numbers.length] = what;
            ask(name, longer);
        }
    }

    private void frame() {
        int joints = ask("count", 0);
        int bars = ask("count", 1);
        int stresses = ask("count", 2);
        for (int what = 3; what < 9; what++) {
            ask("count", what);
        }
        for (int what = 0; what < 4; what++) {
            for (int j = 0; j < joints; j++) {
                ask("at", j, what);
            }
            for (int k = 0; k < bars; k++) {
                ask("of", k, what);
            }
        }
        for (int k = 0; k < bars; k++) {
            askParts("pull", k);
            for (int j = 0; j < stresses; j++) {
                askParts("stress", j, k);
            }
        }
        for (int c = 0; c < 11; c++) {
            ask("fail", c, 0);
            ask("fail", c, 1);
        }
    }

    private void faces() {
        int joints = ask("count", 0);
        int halves = 2 * ask("count", 1);
        int faces = ask("count", 5);
        for (int h = 0; h < halves; h++) {
            ask("next", h);
            ask("beside", h);
        }
        for (int f = 0; f < faces; f++) {
            int size = ask("face", f, 0);
            ask("face", f, 1);
            ask("face", f, 2);
            for (int i = 0; i < size; i++) {
                ask("round", f, i);
            }
            askParts("point", f, 0);
            askParts("point", f, 1);
            for (int which = 0; which < 3; which++) {
                askParts("plane", f, which);
            }
        }
        for (int j = 0; j < joints; j++) {
            askParts("height", j);
        }
    }

    private void corners() {
        int joints = ask("count", 0);
        for (int j = 0; j < joints; j++) {
            int bars = ask("at", j, 2);
            for (int i = 0; i <= bars; i++) {
                askParts("corner", j, i, 0);
                askParts("corner", j, i, 1);
            }
        }
    }

    /** Of an item no more can be asked than its sign, or that it is no number of -99 to 99. */
    private void sheets() {
        ask("read");
        for (char letter : "00,10;01".toCharArray()) {
            ask("type", letter);
        }
        ask("read");
        for (int sheet = 0; sheet < 4; sheet++) {
            int lane = 0;
            for (int other = 0; other < 4; other++) {
                lane = ask("item", sheet, other, -1, 0) == ForceFrames.INDEX ? other : lane;
            }
            for (int i = 0; i < 24; i++) {
                ask("what", sheet, lane, i);
            }
            ask("drop", sheet);
        }
    }

    private void tape() {
        for (int i = 0; i < 61 && ask("type", '0') > 0; i++) {
            all.append(',');
        }
    }

    private void text() {
        ask("read");
        briefly();
    }

    private int undone(int steps) {
        int known = ask("count", 8);
        for (int i = 0; i < steps; i++) {
            ask("undo");
        }
        briefly();
        return known;
    }

    private int restored(int steps) {
        return ask("restore") < 0 ? 0 : undone(steps);
    }

    /** All that a step may change. */
    private void briefly() {
        int joints = ask("count", 0);
        int bars = ask("count", 1);
        for (int j = 0; j < joints; j++) {
            ask("at", j, 0);
            ask("at", j, 1);
        }
        for (int k = 0; k < bars; k++) {
            ask("of", k, 0);
            ask("of", k, 1);
        }
        ask("count", 8);
        for (int j = 0; j < 9; j++) {
            ask("weight", j, 9);
        }
        ask("seed", 0);
    }
}
