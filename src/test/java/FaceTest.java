/** Promises 14 to 21: faces, the reciprocal, the fold, polygons. */
public final class FaceTest {
    private static final Check CHECK = new Check();
    private static final String WHEEL3 = "00,50,05,11;01,12,02,03,13,23";
    private static final String APART = "00,10,05,15;01,23";
    /** A joint with a bar each way, and one aslant. */
    private static final String STAR = "22,42,24,02,20,33;01,02,03,04,05";

    private FaceTest() {
    }

    public static void main(String[] args) {
        promise14Next();
        promise15Face();
        promise16Round();
        promise17Beside();
        promise18Point();
        promise19Plane();
        promise20Height();
        promise21Corner();
        foldIsFlat();
        CHECK.end();
    }

    private static void due(String call, long got, long want) {
        CHECK.due(call, got, want);
    }

    private static void dueFraction(String call, long[] got, String want) {
        String is = Check.fraction(got[0], got[1], got[2]);
        CHECK.holds(call + " is " + is + ", due is " + want, is.equals(want));
    }

    private static void duePoint(ForceFrames x, int f, String wantX, String wantY) {
        String[] want = {wantX, wantY};
        for (int axis = 0; axis < 2; axis++) {
            long[] got = {x.point(f, axis, 0), x.point(f, axis, 1), x.point(f, axis, 2)};
            dueFraction("point(" + f + ", " + axis + ")", got, want[axis]);
        }
    }

    private static void duePlane(ForceFrames x, int f, String... want) {
        for (int which = 0; which < 3; which++) {
            long[] got = {x.plane(f, which, 0), x.plane(f, which, 1), x.plane(f, which, 2)};
            dueFraction("plane(" + f + ", " + which + ")", got, want[which]);
        }
    }

    private static void dueHeight(ForceFrames x, int j, String want) {
        long[] got = {x.height(j, 0), x.height(j, 1), x.height(j, 2)};
        dueFraction("height(" + j + ")", got, want);
    }

    private static void dueCorner(ForceFrames x, int j, int i, String wantX, String wantY) {
        String[] want = {wantX, wantY};
        for (int axis = 0; axis < 2; axis++) {
            long[] got = {x.corner(j, i, axis, 0), x.corner(j, i, axis, 1), x.corner(j, i, axis, 2)};
            dueFraction("corner(" + j + ", " + i + ", " + axis + ")", got, want[axis]);
        }
    }

    private static void promise14Next() {
        ForceFrames x = Check.frameOf(STAR);
        due("next below", x.next(-1), -1);
        due("next above", x.next(10), -1);
        due("next at a free end", x.next(0), 1);
        // To joint 0 from the east; clockwise from there the first is the south, and so on round.
        due("from the east", x.next(1), 6);
        due("from the south", x.next(7), 4);
        due("from the west", x.next(5), 2);
        due("from the north", x.next(3), 8);
        due("from the north-east", x.next(9), 0);
        due("next of none", new ForceFrames().next(0), -1);
        due("next where it's not whole", Check.frameOf(APART).next(2), 3);
    }

    private static void promise15Face() {
        ForceFrames x = Check.frameOf(WHEEL3);
        int[][] want = {{3, 5, 0}, {3, 25, 1}, {3, 15, 2}, {3, 5, 5}};
        for (int f = 0; f < 4; f++) {
            for (int what = 0; what < 3; what++) {
                due("face(" + f + ", " + what + ")", x.face(f, what), want[f][what]);
            }
        }
        due("face below", x.face(-1, 0), -1);
        due("face above", x.face(4, 0), -1);
        due("face what below", x.face(0, -1), -1);
        due("face what above", x.face(0, 3), -1);
        ForceFrames tree = Check.frameOf(STAR);
        due("a tree has one face", tree.count(5), 1);
        due("of all half bars", tree.face(0, 0), 10);
        due("that measures nothing", tree.face(0, 1), 0);
        ForceFrames apart = Check.frameOf(APART);
        due("apart: the second's size", apart.face(1, 0), 2);
        due("apart: the second's least", apart.face(1, 2), 2);
    }

    private static void promise16Round() {
        ForceFrames x = Check.frameOf(WHEEL3);
        int[][] want = {{0, 8, 7}, {1, 4, 3}, {2, 10, 9}, {5, 6, 11}};
        for (int f = 0; f < 4; f++) {
            for (int i = 0; i < 3; i++) {
                due("round(" + f + ", " + i + ")", x.round(f, i), want[f][i]);
            }
            due("round beyond", x.round(f, 3), -1);
        }
        due("round below", x.round(0, -1), -1);
        due("round no face", x.round(4, 0), -1);
        due("round face below", x.round(-1, 0), -1);
        ForceFrames tree = Check.frameOf("00,10,20;01,12");
        int[] walk = {0, 2, 3, 1};
        for (int i = 0; i < 4; i++) {
            due("round a tree", tree.round(0, i), walk[i]);
        }
    }

    private static void promise17Beside() {
        ForceFrames x = Check.frameOf(WHEEL3);
        int[] want = {0, 1, 2, 1, 1, 3, 3, 0, 0, 2, 2, 3};
        for (int h = 0; h < 12; h++) {
            due("beside(" + h + ")", x.beside(h), want[h]);
        }
        due("beside below", x.beside(-1), -1);
        due("beside above", x.beside(12), -1);
        due("beside where it's not whole", Check.frameOf(APART).beside(3), 1);
    }

    private static void promise18Point() {
        ForceFrames x = Check.frameOf(WHEEL3);
        duePoint(x, 0, "5/1", "0/1 (0)");
        duePoint(x, 1, "0/1 (0)", "0/1 (0)");
        duePoint(x, 2, "-5/3", "5/3");
        duePoint(x, 3, "0/1 (0)", "-5/1");
        due("point face below", x.point(-1, 0, 0), -1);
        due("point face above", x.point(4, 0, 0), -1);
        due("point axis below", x.point(0, -1, 0), -1);
        due("point axis above", x.point(0, 2, 0), -1);
        due("point what below", x.point(0, 0, -1), -1);
        due("point what above", x.point(0, 0, 3), -1);
        ForceFrames apart = Check.frameOf(APART);
        due("point not whole", apart.point(1, 1, 2), -4);
        due("point not whole, bad", apart.point(2, 0, 0), -1);
        x.joint(5, 5);
        due("point with a joint alone", x.point(0, 0, 0), -4);
        x.undo();
        x.weight(0, -3);
        duePoint(x, 2, "5/1", "-5/1");
    }

    private static void promise19Plane() {
        ForceFrames x = Check.frameOf(WHEEL3);
        duePlane(x, 0, "0/1 (0)", "5/1", "0/1 (0)");
        duePlane(x, 1, "0/1 (0)", "0/1 (0)", "0/1 (0)");
        duePlane(x, 2, "-5/3", "-5/3", "25/3");
        duePlane(x, 3, "5/1", "0/1 (0)", "0/1 (0)");
        due("plane face below", x.plane(-1, 0, 0), -1);
        due("plane face above", x.plane(4, 0, 0), -1);
        due("plane which below", x.plane(0, -1, 0), -1);
        due("plane which above", x.plane(0, 3, 0), -1);
        due("plane what below", x.plane(0, 0, -1), -1);
        due("plane what above", x.plane(0, 0, 3), -1);
        ForceFrames apart = Check.frameOf(APART);
        due("plane not whole", apart.plane(0, 2, 0), -4);
        due("plane not whole, bad", apart.plane(0, 3, 0), -1);
    }

    private static void promise20Height() {
        ForceFrames x = Check.frameOf(WHEEL3);
        for (int j = 0; j < 3; j++) {
            dueHeight(x, j, "0/1 (0)");
        }
        dueHeight(x, 3, "5/1");
        x.weight(0, -2);
        dueHeight(x, 3, "-10/1");
        due("height no joint", x.height(4, 0), -1);
        due("height below", x.height(-1, 0), -1);
        due("height what below", x.height(0, -1), -1);
        due("height what above", x.height(0, 3), -1);
        due("height not whole", Check.frameOf(APART).height(0, 0), -4);
        due("height not whole, bad", Check.frameOf(APART).height(4, 0), -1);
        due("height of a joint alone", Check.frameOf("33").height(0, 1), -4);
    }

    private static void promise21Corner() {
        ForceFrames x = Check.frameOf(WHEEL3);
        x.weight(0, -3);
        // From (1, 1) the bars are met towards (0, 5), (0, 0), (5, 0), counter-clockwise.
        dueCorner(x, 3, 0, "0/1 (0)", "0/1 (0)");
        dueCorner(x, 3, 1, "-5/1", "20/1");
        dueCorner(x, 3, 2, "-20/1", "5/1");
        dueCorner(x, 3, 3, "0/1 (0)", "0/1 (0)");
        due("corner no joint", x.corner(4, 0, 0, 0), -1);
        due("corner below", x.corner(-1, 0, 0, 0), -1);
        due("corner i below", x.corner(0, -1, 0, 0), -1);
        due("corner i above", x.corner(0, 4, 0, 0), -1);
        due("corner axis below", x.corner(0, 0, -1, 0), -1);
        due("corner axis above", x.corner(0, 0, 2, 0), -1);
        due("corner what below", x.corner(0, 0, 0, -1), -1);
        due("corner what above", x.corner(0, 0, 0, 3), -1);
        // The way in which x grows is the first; the frame need not be whole.
        ForceFrames z = Check.frameOf("00,50,05,22,55;03,01,02,12,13,23");
        due("not whole", z.count(4), 0);
        dueCorner(z, 0, 1, "-2/1", "0/1 (0)");
        dueCorner(z, 0, 2, "0/1 (0)", "2/1");
        dueCorner(z, 0, 3, "0/1 (0)", "0/1 (0)");
        due("of no bars: corner 0", z.corner(4, 0, 0, 1), 1);
        due("of no bars: corner 1", z.corner(4, 1, 0, 1), -1);
    }

    /** The rules of the reciprocal and of the fold themselves, in frames of one and of two stresses. */
    private static void foldIsFlat() {
        String[] texts = {
            WHEEL3, "00,50,05,11,22;01,12,02,03,13,23,34,14,24", "00,50,55,05,22;01,12,23,30,04,14,24,34",
            "00,50,05,11,31,13;01,12,02,34,45,35,03,14,25", STAR,
        };
        for (String text : texts) {
            ForceFrames x = Check.frameOf(text);
            x.weight(0, 7);
            x.weight(1, -4);
            for (int h = 0; h < 2 * x.count(1); h++) {
                checkHalf(x, text, h);
            }
        }
    }

    private static void checkHalf(ForceFrames x, String text, int h) {
        int from = x.of(h / 2, h % 2);
        int to = x.of(h / 2, 1 - h % 2);
        int f = x.beside(h);
        int g = x.beside(h ^ 1);
        double number = value(x.pull(h / 2, 0), x.pull(h / 2, 1), x.pull(h / 2, 2));
        for (int axis = 0; axis < 2; axis++) {
            double step = x.at(to, axis) - x.at(from, axis);
            double gap = pointOf(x, f, axis) - pointOf(x, g, axis) - number * step;
            CHECK.holds(text + ": the points beside " + h + " differ by its force", Math.abs(gap) < 1e-9);
        }
        for (int j : new int[] {from, to}) {
            double z = value(x.height(j, 0), x.height(j, 1), x.height(j, 2));
            double there = planeOf(x, f, 0) * x.at(j, 0) + planeOf(x, f, 1) * x.at(j, 1) + planeOf(x, f, 2);
            CHECK.holds(text + ": face " + f + " is flat at " + j, Math.abs(z - there) < 1e-9);
        }
    }

    private static double value(long above, long below, long sign) {
        return (sign == 2 ? -1.0 : 1.0) * above / below;
    }

    private static double pointOf(ForceFrames x, int f, int axis) {
        return value(x.point(f, axis, 0), x.point(f, axis, 1), x.point(f, axis, 2));
    }

    private static double planeOf(ForceFrames x, int f, int which) {
        return value(x.plane(f, which, 0), x.plane(f, which, 1), x.plane(f, which, 2));
    }
}
