/** Promises 1 to 13: frames, their stresses, how stiff they are. */
public final class FrameTest {
    private static final Check CHECK = new Check();
    private static final int MAX = Integer.MAX_VALUE;
    private static final int MIN = Integer.MIN_VALUE;
    /** A triangle with a joint inside: 6 bars, 1 stress. */
    private static final String WHEEL3 = "00,50,05,11;01,12,02,03,13,23";
    /** 5 joints, 9 bars, 2 stresses. */
    private static final String TWO_STRESSES = "00,50,05,11,22;01,12,02,03,13,23,34,14,24";

    private FrameTest() {
    }

    public static void main(String[] args) {
        promise1New();
        promise2Joint();
        promise3Move();
        promise4Lose();
        promise5Bar();
        promise6Out();
        promise7Weight();
        promise8At();
        promise9Of();
        promise10Count();
        promise11Stress();
        promise12Pull();
        promise13Fail();
        CHECK.end();
    }

    private static void due(String call, long got, long want) {
        CHECK.due(call, got, want);
    }

    private static void promise1New() {
        ForceFrames x = new ForceFrames();
        long[] counts = {0, 0, 0, 0, 0, 0, -4, 82, 0};
        for (int i = 0; i < counts.length; i++) {
            due("new count(" + i + ")", x.count(i), counts[i]);
        }
        due("new undo", x.undo(), -4);
        due("new restore", x.restore(), -4);
        due("new weight 0", x.weight(0, 1), -2);
        for (int j = 1; j < 9; j++) {
            due("new weight " + j, x.weight(j, 0), -2);
        }
        for (int s = 0; s < 4; s++) {
            due("new drop", x.drop(s), -11);
        }
        due("new draw", x.seed(5), 1);
        due("new tape", x.type('0'), 1);
        due("objects are apart", new ForceFrames().seed(7), 1);
    }

    private static void promise2Joint() {
        ForceFrames x = new ForceFrames();
        due("joint x below", x.joint(-1, 0), -1);
        due("joint x above", x.joint(6, 0), -1);
        due("joint y below", x.joint(0, -1), -1);
        due("joint y above", x.joint(0, 6), -1);
        due("joint far", x.joint(MIN, MAX), -1);
        due("joint 0", x.joint(0, 0), 0);
        due("joint again", x.joint(0, 0), -2);
        due("joint 1", x.joint(5, 5), 1);
        due("bar", x.bar(0, 1), 0);
        due("joint under a bar", x.joint(3, 3), -2);
        due("joint beside a bar", x.joint(3, 4), 2);
        due("joint 3", x.joint(0, 5), 3);
        due("joint 4", x.joint(5, 0), 4);
        due("joint 5", x.joint(1, 0), 5);
        due("a seventh", x.joint(2, 0), -3);
        due("a seventh, taken", x.joint(1, 0), -2);
        due("a seventh, under a bar", x.joint(1, 1), -2);
        due("a seventh, bad", x.joint(6, 1), -1);
        due("six joints", x.count(0), 6);
        due("no more steps than done", x.count(8), 6);
        ForceFrames y = Check.frameOf("11,33;01");
        due("behind an end, in line", y.joint(4, 4), 2);
        due("before an end, in line", y.joint(0, 0), 3);
        due("refused is no step", y.joint(2, 2), -2);
        due("steps", y.count(8), 3);
    }

    private static void promise3Move() {
        ForceFrames x = Check.frameOf("00,40,02,42,25;01,23");
        due("move no joint", x.move(5, 0, 1), -1);
        due("move below", x.move(-1, 0, 1), -1);
        due("move to x below", x.move(0, -1, 0), -1);
        due("move to x above", x.move(0, 6, 0), -1);
        due("move to y below", x.move(0, 0, -1), -1);
        due("move to y above", x.move(0, 0, 6), -1);
        due("move to where it is", x.move(0, 0, 0), -2);
        due("move to another", x.move(0, 4, 2), -2);
        due("move onto a bar", x.move(4, 2, 2), -2);
        due("move onto an own bar's way is fine", x.move(0, 2, 0), 1);
        due("move so that bars cross", x.move(0, 2, 3), -2);
        due("refused stays x", x.at(0, 0), 2);
        due("refused stays y", x.at(0, 1), 0);
        due("move so that a bar goes over a joint", x.move(2, 0, 1), 1);
        due("a joint on the way", x.move(4, 1, 4), 0);
        ForceFrames y = Check.frameOf("00,02,20,11;01,02");
        due("a bar over a joint", y.move(1, 2, 2), -2);
        due("over none", y.move(1, 2, 3), 1);
        due("bar over bar by a move", Check.frameOf("00,02,05;01,12").move(0, 0, 4), -2);
        due("steps", y.count(8), 2);
        due("a joint of 3 bars", Check.frameOf(WHEEL3).move(3, 2, 1), 3);
    }

    private static void promise4Lose() {
        ForceFrames x = Check.frameOf(WHEEL3);
        due("lose no joint", x.lose(4), -1);
        due("lose below", x.lose(-1), -1);
        due("lose 1", x.lose(1), 3);
        due("n", x.count(0), 3);
        int[][] bars = {{0, 1}, {0, 2}, {1, 2}};
        for (int k = 0; k < bars.length; k++) {
            due("a of " + k, x.of(k, 0), bars[k][0]);
            due("b of " + k, x.of(k, 1), bars[k][1]);
        }
        due("x of 1", x.at(1, 0), 0);
        due("y of 1", x.at(1, 1), 5);
        due("x of 2", x.at(2, 0), 1);
        due("lost is gone", x.at(3, 0), -1);
        due("lose the last", x.lose(2), 1);
        due("lose the first", x.lose(0), 0);
        due("lose the only", x.lose(0), 0);
        due("none is left", x.lose(0), -1);
        due("steps", x.count(8), 5);
        due("a new one", x.joint(3, 3), 0);
    }

    private static void promise5Bar() {
        ForceFrames x = Check.frameOf("00,20,40,12,52");
        due("bar no joint a", x.bar(5, 0), -1);
        due("bar no joint b", x.bar(0, 5), -1);
        due("bar below", x.bar(-1, 0), -1);
        due("bar below b", x.bar(0, -1), -1);
        due("bar to itself", x.bar(2, 2), -1);
        due("bar over a joint", x.bar(0, 2), -2);
        due("bar", x.bar(1, 0), 0);
        due("bar again", x.bar(0, 1), -2);
        due("bar turned", x.bar(1, 0), -2);
        due("bar in line", x.bar(2, 1), 1);
        due("a", x.of(1, 0), 1);
        due("b", x.of(1, 1), 2);
        due("long bar", x.bar(0, 4), 2);
        due("bar across", x.bar(1, 3), -2);
        due("bar beside", x.bar(3, 4), 3);
        due("steps", x.count(8), 5);
        ForceFrames y = Check.frameOf("00,50,05,11,22,13;01,12,02,03,13,23,34,14,24");
        due("nine bars", y.count(1), 9);
        due("a tenth, across", y.bar(5, 0), -2);
        due("a tenth, there", y.bar(0, 1), -2);
        due("a tenth, fine but full", y.bar(5, 2), -3);
        due("a tenth, bad", y.bar(5, 6), -1);
    }

    private static void promise6Out() {
        ForceFrames x = Check.frameOf(WHEEL3);
        due("out no bar", x.out(6), -1);
        due("out below", x.out(-1), -1);
        due("out 1", x.out(1), 5);
        int[][] bars = {{0, 1}, {0, 2}, {0, 3}, {1, 3}, {2, 3}};
        for (int k = 0; k < bars.length; k++) {
            due("a of " + k, x.of(k, 0), bars[k][0]);
            due("b of " + k, x.of(k, 1), bars[k][1]);
        }
        due("joints stay", x.count(0), 4);
        due("out the last", x.out(4), 4);
        due("gone", x.of(4, 0), -1);
        due("steps", x.count(8), 3);
    }

    private static void promise7Weight() {
        ForceFrames x = new ForceFrames();
        due("weight below", x.weight(-1, 0), -1);
        due("weight 9", x.weight(9, 5), -1);
        due("weight v below", x.weight(0, -10), -1);
        due("weight v above", x.weight(0, 10), -1);
        due("weight so", x.weight(0, 1), -2);
        due("weight 0", x.weight(0, -9), 10);
        due("weight 0 again", x.weight(0, 9), 0);
        due("weight 0 once more", x.weight(0, 0), 18);
        due("weight 8", x.weight(8, 4), 9);
        due("sum", x.count(7), 85);
        due("steps", x.count(8), 4);
        Check.tell(x, WHEEL3);
        due("weights stay with a text", x.count(7), 85);
        x.lose(0);
        x.lose(0);
        due("weights stay with what is lost", x.weight(8, 4), -2);
    }

    private static void promise8At() {
        ForceFrames x = Check.frameOf("00,50,05,21,11;01,12,02,13,03,23");
        due("at no joint", x.at(5, 0), -1);
        due("at below", x.at(-1, 0), -1);
        due("at what below", x.at(0, -1), -1);
        due("at what above", x.at(0, 4), -1);
        due("x", x.at(3, 0), 2);
        due("y", x.at(3, 1), 1);
        due("bars", x.at(3, 2), 3);
        due("others", x.at(3, 3), 7);
        due("others of 1", x.at(1, 3), 1 + 4 + 8);
        due("bars of none", x.at(4, 2), 0);
        due("others of none", x.at(4, 3), 0);
    }

    private static void promise9Of() {
        ForceFrames x = Check.frameOf("00,50,05,11,55;14,01,12,02,03,13,23");
        due("of no bar", x.of(7, 0), -1);
        due("of below", x.of(-1, 0), -1);
        due("of what below", x.of(0, -1), -1);
        due("of what above", x.of(0, 4), -1);
        due("a", x.of(0, 0), 1);
        due("b", x.of(0, 1), 4);
        due("a free end leads not", x.of(0, 2), 0);
        due("a free end is needed", x.of(0, 3), 1);
        due("the first of a stress leads", x.of(1, 2), 1);
        due("and is not needed", x.of(1, 3), 0);
        due("the next does not lead", x.of(2, 2), 0);
        due("nor is it needed", x.of(2, 3), 0);
        // A bar may lie behind one that leads and yet lead, where its own stress begins.
        ForceFrames y = Check.frameOf(TWO_STRESSES);
        int[] leads = {1, 1, 0, 0, 0, 0, 0, 0, 0};
        for (int k = 0; k < 9; k++) {
            due("leads " + k, y.of(k, 2), leads[k]);
        }
    }

    private static void promise10Count() {
        ForceFrames x = Check.frameOf(WHEEL3);
        long[] counts = {4, 6, 1, 1, 1, 4, 1, 82, 1};
        for (int i = 0; i < counts.length; i++) {
            due("count(" + i + ")", x.count(i), counts[i]);
        }
        due("count below", x.count(-1), -1);
        due("count above", x.count(9), -1);
        ForceFrames two = Check.frameOf("00,10,05,15;01,23");
        long[] apart = {4, 2, 0, 0, 0, 2, -4, 82, 1};
        for (int i = 0; i < apart.length; i++) {
            due("apart count(" + i + ")", two.count(i), apart[i]);
        }
        ForceFrames one = Check.frameOf("00,10;01");
        long[] single = {2, 1, 0, 1, 1, 1, 0, 82, 1};
        for (int i = 0; i < single.length; i++) {
            due("single count(" + i + ")", one.count(i), single[i]);
        }
        one.joint(3, 3);
        due("a joint alone: not whole", one.count(4), 0);
        due("a joint alone: no outer", one.count(6), -4);
        due("a joint alone: still a face", one.count(5), 1);
        ForceFrames lone = Check.frameOf("22");
        due("one joint is not stiff", lone.count(3), 0);
        due("one joint is not whole", lone.count(4), 0);
        ForceFrames steps = new ForceFrames();
        for (int v = 2; v <= 9; v++) {
            steps.weight(0, v);
            due("steps known", steps.count(8), Math.min(v - 1, 6));
        }
        // As many bars as a stiff frame needs, but in a stress of their own.
        due("bars enough, not stiff", Check.frameOf("00,50,05,11,55,54;01,12,02,03,13,23,14,45,15").count(3), 0);
    }

    private static void dueStress(ForceFrames x, int j, int k, String want) {
        String got = Check.fraction(x.stress(j, k, 0), x.stress(j, k, 1), x.stress(j, k, 2));
        CHECK.holds("stress " + j + " of bar " + k + " is " + got + ", due is " + want, got.equals(want));
    }

    private static void promise11Stress() {
        ForceFrames x = Check.frameOf(WHEEL3);
        String[] want = {"1/1", "1/3", "1/1", "-5/1", "-5/3", "-5/3"};
        for (int k = 0; k < 6; k++) {
            dueStress(x, 0, k, want[k]);
        }
        due("stress 1 is none", x.stress(1, 0, 0), -1);
        due("stress below", x.stress(-1, 0, 0), -1);
        due("stress no bar", x.stress(0, 6, 0), -1);
        due("stress bar below", x.stress(0, -1, 0), -1);
        due("stress what below", x.stress(0, 0, -1), -1);
        due("stress what above", x.stress(0, 0, 3), -1);
        x.weight(0, 5);
        dueStress(x, 0, 0, "1/1");
        ForceFrames y = Check.frameOf(TWO_STRESSES);
        String[][] both = {
            {"1/1", "0/1 (0)", "1/1", "-5/1", "-2/1", "-2/1", "1/1", "1/1", "1/1"},
            {"0/1 (0)", "1/1", "0/1 (0)", "0/1 (0)", "1/1", "1/1", "-3/1", "-3/1", "-3/1"},
        };
        for (int k = 0; k < 9; k++) {
            dueStress(y, 0, k, both[0][k]);
            dueStress(y, 1, k, both[1][k]);
        }
        due("stress 2 is none", y.stress(2, 0, 0), -1);
    }

    private static void duePull(ForceFrames x, int k, String want) {
        String got = Check.fraction(x.pull(k, 0), x.pull(k, 1), x.pull(k, 2));
        CHECK.holds("pull of bar " + k + " is " + got + ", due is " + want, got.equals(want));
    }

    private static void promise12Pull() {
        ForceFrames x = Check.frameOf(WHEEL3);
        due("pull no bar", x.pull(6, 0), -1);
        due("pull below", x.pull(-1, 0), -1);
        due("pull what below", x.pull(0, -1), -1);
        due("pull what above", x.pull(0, 3), -1);
        duePull(x, 4, "-5/3");
        x.weight(0, -3);
        duePull(x, 0, "-3/1");
        duePull(x, 4, "5/1");
        x.weight(1, 9);
        duePull(x, 4, "5/1");
        x.weight(0, 0);
        duePull(x, 4, "0/1 (0)");
        ForceFrames y = Check.frameOf(TWO_STRESSES);
        y.weight(0, 0);
        y.weight(1, 2);
        duePull(y, 0, "0/1 (0)");
        duePull(y, 1, "2/1");
        duePull(y, 2, "0/1 (0)");
        duePull(y, 6, "-6/1");
        y.weight(0, -7);
        duePull(y, 0, "-7/1");
        duePull(y, 3, "35/1");
        duePull(y, 6, "-13/1");
        y.out(0);
        duePull(y, 0, "-7/1");
        duePull(y, 6, "21/1");
        due("a stress goes with its bar", y.count(2), 1);
    }

    private static void dueFail(ForceFrames x, int c, long above, long below) {
        due("fail(" + c + ", 0)", x.fail(c, 0), above);
        due("fail(" + c + ", 1)", x.fail(c, 1), below);
    }

    private static void promise13Fail() {
        ForceFrames x = Check.frameOf(WHEEL3);
        due("fail below", x.fail(-1, 0), -1);
        due("fail above", x.fail(11, 0), -1);
        due("fail what below", x.fail(0, -1), -1);
        due("fail what above", x.fail(0, 2), -1);
        dueFail(x, 0, 1, 1);
        dueFail(x, 10, 0, 1);
        dueFail(x, 5, 7, 64);
        dueFail(x, 1, 177147, 200000);
        ForceFrames one = Check.frameOf("00,10;01");
        dueFail(one, 0, 1, 1);
        dueFail(one, 3, 7, 10);
        dueFail(one, 10, 0, 1);
        dueFail(new ForceFrames(), 0, 0, 1);
        dueFail(Check.frameOf("00,10"), 4, 0, 1);
        dueFail(Check.frameOf("22"), 0, 0, 1);
        // One stiff whole and a stress: a bar outside of the stress may not fail.
        ForceFrames y = Check.frameOf("00,50,05,11,55;01,12,02,03,13,23,14,24");
        dueFail(y, 5, 7, 256);
        dueFail(Check.frameOf(TWO_STRESSES), 5, stiffSubsets(TWO_STRESSES), 512);
    }

    /** How many sets of bars are stiff, by frames that are told with these bars alone. */
    private static long stiffSubsets(String text) {
        int cut = text.indexOf(';');
        String[] bars = text.substring(cut + 1).split(",");
        long stiff = 0;
        for (int set = 1; set < 1 << bars.length; set++) {
            StringBuilder some = new StringBuilder();
            for (int k = 0; k < bars.length; k++) {
                if ((set >> k & 1) == 1) {
                    some.append(some.length() == 0 ? ";" : ",").append(bars[k]);
                }
            }
            stiff += Check.frameOf(text.substring(0, cut) + some).count(3);
        }
        CHECK.holds("the count of stiff sets is odd, so 512 stays below", stiff % 2 == 1);
        return stiff;
    }
}
